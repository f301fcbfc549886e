theorem cI_e {h : HP} {a0 a n0 n1 : Nat} {f g : Nat → Int32} {sp dp n : Int} (e0 : ARR h a0 n0 f) (e1 : ARR h a n1 g) (hz : 0 ≤ sp ∧ 0 ≤ dp ∧ 0 ≤ n ∧ sp + n ≤ n0 ∧ dp + n ≤ n1 ∧ (n0 : Int) < 2147483648 ∧ (n1 : Int) < 2147483648) : cI h a0 (zI sp) a (zI dp) (zI n) = some (hup h a (.inl (0, n1, .inl (va_cpy f g sp.toNat dp.toNat n.toNat)))) := by
  unfold cI
  rw [e0]
  simp only []
  rw [e1]
  simp only []
  rw [zI_clamp (by omega), zI_clamp (by omega), zI_clamp (by omega)]
  rw [if_neg]
  simp only [zl0]
  rw [zI_lt (by omega), zI_lt (by omega), zI_lt (by omega)]
  omega
theorem ARR_ne {h : HP} {a b n : Nat} {f : Nat → Int32} {e : CE} (H : ARR h a n f) (hb : a ≠ b) : ARR (hup h b e) a n f := (hup_ne _ _ hb).trans H
theorem ARR_eq (h : HP) (a n : Nat) (f : Nat → Int32) : ARR (hup h a (.inl (0, n, .inl f))) a n f := hup_same _ _ _
theorem COLU_app {f : Nat → Int32} {ws : List WR} {g : WR → Int} (H : COLU f ws g) (w : WR) : COLU (upd f ws.length (zI (g w))) (ws ++ [w]) g := by
  intro j hj
  rw [List.length_append, List.length_singleton] at hj
  by_cases c : j = ws.length
  · subst c
    rw [wat_get (by rw [List.length_append, List.length_singleton]; omega)]
    unfold upd
    rw [if_pos rfl, List.getElem_append_right (Nat.le_refl _)]
    simp
  · unfold upd
    rw [if_neg c, H j (by omega), wat_get (by omega), wat_get (by rw [List.length_append, List.length_singleton]; omega), List.getElem_append_left (by omega)]
theorem X6_add_is {h : HP} {a cap : Nat} {ws : List WR} (e : WRS h a cap ws) (n f t v : Int) (hl : ws.length < cap) : WP (f_X6_add h a (zI n) (zI f) (zI t) (zI v)) (fun h' => WRS h' a cap (ws ++ [(n, f, t, v)]) ∧ OFF a 5 h h') := by
  obtain ⟨f0, f1, f2, f3, e0, e1, e2, e3, e4, r, r2, c0, c1, c2, c3⟩ := e
  unfold f_X6_add b_X6_add_0
  refine wb (kO_e e0) ?_
  refine wb (gI_e e0 rfl) ?_
  refine wb (gR_e e0 rfl) ?_
  refine wb (aN_e e1) ?_
  refine wf (fun d => absurd ((zI_le (by omega)).mp d) (by omega)) ?_
  refine wb (gR_e e0 rfl) ?_
  refine wb (gI_e e0 rfl) ?_
  refine wb (wI_e e1 (by omega)) ?_
  have e0 := (hup_ne h (e := .inl (0, cap, .inl (upd f0 (ws.length : Int).toNat (zI n)))) (show a ≠ a + 1 by omega)).trans e0
  have e2 := ARR_ne (e := .inl (0, cap, .inl (upd f0 (ws.length : Int).toNat (zI n)))) e2 (show a + 2 ≠ a + 1 by omega)
  have e3 := ARR_ne (e := .inl (0, cap, .inl (upd f0 (ws.length : Int).toNat (zI n)))) e3 (show a + 3 ≠ a + 1 by omega)
  have e4 := ARR_ne (e := .inl (0, cap, .inl (upd f0 (ws.length : Int).toNat (zI n)))) e4 (show a + 4 ≠ a + 1 by omega)
  have e1 := ARR_eq h (a + 1) cap (upd f0 (ws.length : Int).toNat (zI n))
  have g1 := OFF_up (OFF_refl a 5 h) (c := a + 1) (e := .inl (0, cap, .inl (upd f0 (ws.length : Int).toNat (zI n)))) (by omega)
  generalize hup h (a + 1) _ = h1 at *
  refine wb (gR_e e0 rfl) ?_
  refine wb (gI_e e0 rfl) ?_
  refine wb (wI_e e2 (by omega)) ?_
  have e0 := (hup_ne h1 (e := .inl (0, cap, .inl (upd f1 (ws.length : Int).toNat (zI f)))) (show a ≠ a + 2 by omega)).trans e0
  have e1 := ARR_ne (e := .inl (0, cap, .inl (upd f1 (ws.length : Int).toNat (zI f)))) e1 (show a + 1 ≠ a + 2 by omega)
  have e3 := ARR_ne (e := .inl (0, cap, .inl (upd f1 (ws.length : Int).toNat (zI f)))) e3 (show a + 3 ≠ a + 2 by omega)
  have e4 := ARR_ne (e := .inl (0, cap, .inl (upd f1 (ws.length : Int).toNat (zI f)))) e4 (show a + 4 ≠ a + 2 by omega)
  have e2 := ARR_eq h1 (a + 2) cap (upd f1 (ws.length : Int).toNat (zI f))
  have g2 := OFF_up g1 (c := a + 2) (e := .inl (0, cap, .inl (upd f1 (ws.length : Int).toNat (zI f)))) (by omega)
  generalize hup h1 (a + 2) _ = h2 at *
  refine wb (gR_e e0 rfl) ?_
  refine wb (gI_e e0 rfl) ?_
  refine wb (wI_e e3 (by omega)) ?_
  have e0 := (hup_ne h2 (e := .inl (0, cap, .inl (upd f2 (ws.length : Int).toNat (zI t)))) (show a ≠ a + 3 by omega)).trans e0
  have e1 := ARR_ne (e := .inl (0, cap, .inl (upd f2 (ws.length : Int).toNat (zI t)))) e1 (show a + 1 ≠ a + 3 by omega)
  have e2 := ARR_ne (e := .inl (0, cap, .inl (upd f2 (ws.length : Int).toNat (zI t)))) e2 (show a + 2 ≠ a + 3 by omega)
  have e4 := ARR_ne (e := .inl (0, cap, .inl (upd f2 (ws.length : Int).toNat (zI t)))) e4 (show a + 4 ≠ a + 3 by omega)
  have e3 := ARR_eq h2 (a + 3) cap (upd f2 (ws.length : Int).toNat (zI t))
  have g3 := OFF_up g2 (c := a + 3) (e := .inl (0, cap, .inl (upd f2 (ws.length : Int).toNat (zI t)))) (by omega)
  generalize hup h2 (a + 3) _ = h3 at *
  refine wb (gR_e e0 rfl) ?_
  refine wb (gI_e e0 rfl) ?_
  refine wb (wI_e e4 (by omega)) ?_
  have e0 := (hup_ne h3 (e := .inl (0, cap, .inl (upd f3 (ws.length : Int).toNat (zI v)))) (show a ≠ a + 4 by omega)).trans e0
  have e1 := ARR_ne (e := .inl (0, cap, .inl (upd f3 (ws.length : Int).toNat (zI v)))) e1 (show a + 1 ≠ a + 4 by omega)
  have e2 := ARR_ne (e := .inl (0, cap, .inl (upd f3 (ws.length : Int).toNat (zI v)))) e2 (show a + 2 ≠ a + 4 by omega)
  have e3 := ARR_ne (e := .inl (0, cap, .inl (upd f3 (ws.length : Int).toNat (zI v)))) e3 (show a + 3 ≠ a + 4 by omega)
  have e4 := ARR_eq h3 (a + 4) cap (upd f3 (ws.length : Int).toNat (zI v))
  have g4 := OFF_up g3 (c := a + 4) (e := .inl (0, cap, .inl (upd f3 (ws.length : Int).toNat (zI v)))) (by omega)
  generalize hup h3 (a + 4) _ = h4 at *
  refine wb (gI_e e0 rfl) ?_
  refine wb (pI_e e0 (show 4 < 5 by omega)) ?_
  refine wr ⟨?_, OFF_up g4 (by omega)⟩
  simp only [zl1, zI_add, List.set_cons_succ, List.set_cons_zero, Int.toNat_natCast] at *
  refine ⟨upd f0 ws.length (zI n), upd f1 ws.length (zI f), upd f2 ws.length (zI t), upd f3 ws.length (zI v), (hup_same _ _ _).trans ?_, ARR_ne e1 (by omega), ARR_ne e2 (by omega), ARR_ne e3 (by omega), ARR_ne e4 (by omega), ?_, r2, COLU_app c0 (n, f, t, v), COLU_app c1 (n, f, t, v), COLU_app c2 (n, f, t, v), COLU_app c3 (n, f, t, v)⟩
  · rw [List.length_append, List.length_singleton]
    rfl
  · rw [List.length_append, List.length_singleton]
    omega
theorem X6_empty_is {h : HP} {a cap : Nat} {ws : List WR} (e : WRS h a cap ws) : WP (f_X6_empty h a) (fun h' => WRS h' a cap [] ∧ OFF a 5 h h') := by
  obtain ⟨f0, f1, f2, f3, e0, e1, e2, e3, e4, r, r2, c0, c1, c2, c3⟩ := e
  unfold f_X6_empty b_X6_empty_0
  refine wb (kO_e e0) ?_
  refine wb (pI_e e0 (show 4 < 5 by omega)) ?_
  refine wr ⟨?_, OFF_up (OFF_refl _ _ _) (by omega)⟩
  exact ⟨f0, f1, f2, f3, hup_same _ _ _, ARR_ne e1 (by omega), ARR_ne e2 (by omega), ARR_ne e3 (by omega), ARR_ne e4 (by omega), Nat.zero_le _, r2, fun j hj => absurd hj (Nat.not_lt_zero _), fun j hj => absurd hj (Nat.not_lt_zero _), fun j hj => absurd hj (Nat.not_lt_zero _), fun j hj => absurd hj (Nat.not_lt_zero _)⟩
