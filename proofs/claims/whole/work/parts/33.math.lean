theorem COLU_rep {f fb : Nat → Int32} {ws bs : List WR} {g : WR → Int} {p q : Nat} (H : COLU f ws g) (Hb : COLU fb bs g) (h1 : p ≤ q) (h2 : q ≤ ws.length) : COLU (va_cpy fb (va_cpy f f q (p + bs.length) (ws.length - q)) 0 p bs.length) (ws.take p ++ bs ++ ws.drop q) g := by
  intro j hj
  have hl : (ws.take p ++ bs ++ ws.drop q).length = p + bs.length + (ws.length - q) := by
    rw [List.length_append, List.length_append, List.length_take, List.length_drop]
    omega
  have hp : (ws.take p).length = p := by
    rw [List.length_take]
    omega
  rw [wat_get hj]
  unfold va_cpy
  by_cases c1 : j < p
  · rw [if_neg (by omega), if_neg (by omega), H j (by omega), wat_get (show j < ws.length by omega), List.getElem_append_left (by rw [List.length_append]; omega), List.getElem_append_left (by omega), List.getElem_take]
  · by_cases c2 : j < p + bs.length
    · rw [if_pos (by omega), Hb _ (by omega), wat_get (by omega), List.getElem_append_left (by rw [List.length_append]; omega), List.getElem_append_right (by omega)]
      congr 2
      simp only [hp, Nat.zero_add]
    · rw [if_neg (by omega), if_pos (by omega), H _ (by omega), wat_get (by omega), List.getElem_append_right (by rw [List.length_append]; omega), List.getElem_drop]
      congr 2
      simp only [List.length_append, hp]

theorem X6_replace_is {h : HP} {a cap b capb : Nat} {ws bs : List WR} (e : WRS h a cap ws) (k : WRS h b capb bs) (hd : a + 5 ≤ b ∨ b + 5 ≤ a) {p q : Nat} (h1 : p ≤ q) (h2 : q ≤ ws.length) (h3 : p + bs.length + (ws.length - q) ≤ cap) : WP (f_X6_replace h a (zI p) (zI q) b) (fun h' => WRS h' a cap (ws.take p ++ bs ++ ws.drop q) ∧ OFF a 5 h h') := by
  obtain ⟨f0, f1, f2, f3, e0, e1, e2, e3, e4, r, r2, c0, c1, c2, c3⟩ := e
  obtain ⟨p0, p1, p2, p3, k0, k1, k2, k3, k4, s, s2, d0, d1, d2, d3⟩ := k
  unfold f_X6_replace b_X6_replace_0
  refine wb (kO_e e0) ?_
  refine wb (gI_e e0 rfl) ?_
  refine wb (gI_e k0 rfl) ?_
  simp only [zl0, zI_sub, zI_add]
  refine wf (fun d => absurd ((zI_lt (by omega)).mp d) (by omega)) ?_
  refine wf (fun d => absurd ((zI_lt (by omega)).mp d) (by omega)) ?_
  refine wf (fun d => absurd ((zI_lt (by omega)).mp d) (by omega)) ?_
  refine wb (gR_e e0 rfl) ?_
  refine wb (aN_e e1) ?_
  refine wt ((zI_le (by omega)).mpr (by omega)) ?_
  have g0 := OFF_refl a 5 h
  refine wb (gR_e e0 rfl) ?_
  refine wb (gR_e e0 rfl) ?_
  refine wb (cI_e e1 e1 (by omega)) ?_
  have e0 := (hup_ne h (e := .inl (0, cap, .inl (va_cpy f0 f0 ((q : Nat) : Int).toNat ((p : Int) + (bs.length : Int)).toNat ((ws.length : Int) - (q : Int)).toNat))) (show a ≠ a + 1 by omega)).trans e0
  have e2 := ARR_ne (e := .inl (0, cap, .inl (va_cpy f0 f0 ((q : Nat) : Int).toNat ((p : Int) + (bs.length : Int)).toNat ((ws.length : Int) - (q : Int)).toNat))) e2 (show a + 2 ≠ a + 1 by omega)
  have e3 := ARR_ne (e := .inl (0, cap, .inl (va_cpy f0 f0 ((q : Nat) : Int).toNat ((p : Int) + (bs.length : Int)).toNat ((ws.length : Int) - (q : Int)).toNat))) e3 (show a + 3 ≠ a + 1 by omega)
  have e4 := ARR_ne (e := .inl (0, cap, .inl (va_cpy f0 f0 ((q : Nat) : Int).toNat ((p : Int) + (bs.length : Int)).toNat ((ws.length : Int) - (q : Int)).toNat))) e4 (show a + 4 ≠ a + 1 by omega)
  have k0 := (hup_ne h (e := .inl (0, cap, .inl (va_cpy f0 f0 ((q : Nat) : Int).toNat ((p : Int) + (bs.length : Int)).toNat ((ws.length : Int) - (q : Int)).toNat))) (show b ≠ a + 1 by omega)).trans k0
  have k1 := ARR_ne (e := .inl (0, cap, .inl (va_cpy f0 f0 ((q : Nat) : Int).toNat ((p : Int) + (bs.length : Int)).toNat ((ws.length : Int) - (q : Int)).toNat))) k1 (show b + 1 ≠ a + 1 by omega)
  have k2 := ARR_ne (e := .inl (0, cap, .inl (va_cpy f0 f0 ((q : Nat) : Int).toNat ((p : Int) + (bs.length : Int)).toNat ((ws.length : Int) - (q : Int)).toNat))) k2 (show b + 2 ≠ a + 1 by omega)
  have k3 := ARR_ne (e := .inl (0, cap, .inl (va_cpy f0 f0 ((q : Nat) : Int).toNat ((p : Int) + (bs.length : Int)).toNat ((ws.length : Int) - (q : Int)).toNat))) k3 (show b + 3 ≠ a + 1 by omega)
  have k4 := ARR_ne (e := .inl (0, cap, .inl (va_cpy f0 f0 ((q : Nat) : Int).toNat ((p : Int) + (bs.length : Int)).toNat ((ws.length : Int) - (q : Int)).toNat))) k4 (show b + 4 ≠ a + 1 by omega)
  have e1 := ARR_eq h (a + 1) cap (va_cpy f0 f0 ((q : Nat) : Int).toNat ((p : Int) + (bs.length : Int)).toNat ((ws.length : Int) - (q : Int)).toNat)
  have g1 := OFF_up g0 (c := a + 1) (e := .inl (0, cap, .inl (va_cpy f0 f0 ((q : Nat) : Int).toNat ((p : Int) + (bs.length : Int)).toNat ((ws.length : Int) - (q : Int)).toNat))) (by omega)
  generalize hup h (a + 1) _ = h10 at *
  refine wb (gR_e e0 rfl) ?_
  refine wb (gR_e e0 rfl) ?_
  refine wb (cI_e e2 e2 (by omega)) ?_
  have e0 := (hup_ne h10 (e := .inl (0, cap, .inl (va_cpy f1 f1 ((q : Nat) : Int).toNat ((p : Int) + (bs.length : Int)).toNat ((ws.length : Int) - (q : Int)).toNat))) (show a ≠ a + 2 by omega)).trans e0
  have e1 := ARR_ne (e := .inl (0, cap, .inl (va_cpy f1 f1 ((q : Nat) : Int).toNat ((p : Int) + (bs.length : Int)).toNat ((ws.length : Int) - (q : Int)).toNat))) e1 (show a + 1 ≠ a + 2 by omega)
  have e3 := ARR_ne (e := .inl (0, cap, .inl (va_cpy f1 f1 ((q : Nat) : Int).toNat ((p : Int) + (bs.length : Int)).toNat ((ws.length : Int) - (q : Int)).toNat))) e3 (show a + 3 ≠ a + 2 by omega)
  have e4 := ARR_ne (e := .inl (0, cap, .inl (va_cpy f1 f1 ((q : Nat) : Int).toNat ((p : Int) + (bs.length : Int)).toNat ((ws.length : Int) - (q : Int)).toNat))) e4 (show a + 4 ≠ a + 2 by omega)
  have k0 := (hup_ne h10 (e := .inl (0, cap, .inl (va_cpy f1 f1 ((q : Nat) : Int).toNat ((p : Int) + (bs.length : Int)).toNat ((ws.length : Int) - (q : Int)).toNat))) (show b ≠ a + 2 by omega)).trans k0
  have k1 := ARR_ne (e := .inl (0, cap, .inl (va_cpy f1 f1 ((q : Nat) : Int).toNat ((p : Int) + (bs.length : Int)).toNat ((ws.length : Int) - (q : Int)).toNat))) k1 (show b + 1 ≠ a + 2 by omega)
  have k2 := ARR_ne (e := .inl (0, cap, .inl (va_cpy f1 f1 ((q : Nat) : Int).toNat ((p : Int) + (bs.length : Int)).toNat ((ws.length : Int) - (q : Int)).toNat))) k2 (show b + 2 ≠ a + 2 by omega)
  have k3 := ARR_ne (e := .inl (0, cap, .inl (va_cpy f1 f1 ((q : Nat) : Int).toNat ((p : Int) + (bs.length : Int)).toNat ((ws.length : Int) - (q : Int)).toNat))) k3 (show b + 3 ≠ a + 2 by omega)
  have k4 := ARR_ne (e := .inl (0, cap, .inl (va_cpy f1 f1 ((q : Nat) : Int).toNat ((p : Int) + (bs.length : Int)).toNat ((ws.length : Int) - (q : Int)).toNat))) k4 (show b + 4 ≠ a + 2 by omega)
  have e2 := ARR_eq h10 (a + 2) cap (va_cpy f1 f1 ((q : Nat) : Int).toNat ((p : Int) + (bs.length : Int)).toNat ((ws.length : Int) - (q : Int)).toNat)
  have g2 := OFF_up g1 (c := a + 2) (e := .inl (0, cap, .inl (va_cpy f1 f1 ((q : Nat) : Int).toNat ((p : Int) + (bs.length : Int)).toNat ((ws.length : Int) - (q : Int)).toNat))) (by omega)
  generalize hup h10 (a + 2) _ = h11 at *
  refine wb (gR_e e0 rfl) ?_
  refine wb (gR_e e0 rfl) ?_
  refine wb (cI_e e3 e3 (by omega)) ?_
  have e0 := (hup_ne h11 (e := .inl (0, cap, .inl (va_cpy f2 f2 ((q : Nat) : Int).toNat ((p : Int) + (bs.length : Int)).toNat ((ws.length : Int) - (q : Int)).toNat))) (show a ≠ a + 3 by omega)).trans e0
  have e1 := ARR_ne (e := .inl (0, cap, .inl (va_cpy f2 f2 ((q : Nat) : Int).toNat ((p : Int) + (bs.length : Int)).toNat ((ws.length : Int) - (q : Int)).toNat))) e1 (show a + 1 ≠ a + 3 by omega)
  have e2 := ARR_ne (e := .inl (0, cap, .inl (va_cpy f2 f2 ((q : Nat) : Int).toNat ((p : Int) + (bs.length : Int)).toNat ((ws.length : Int) - (q : Int)).toNat))) e2 (show a + 2 ≠ a + 3 by omega)
  have e4 := ARR_ne (e := .inl (0, cap, .inl (va_cpy f2 f2 ((q : Nat) : Int).toNat ((p : Int) + (bs.length : Int)).toNat ((ws.length : Int) - (q : Int)).toNat))) e4 (show a + 4 ≠ a + 3 by omega)
  have k0 := (hup_ne h11 (e := .inl (0, cap, .inl (va_cpy f2 f2 ((q : Nat) : Int).toNat ((p : Int) + (bs.length : Int)).toNat ((ws.length : Int) - (q : Int)).toNat))) (show b ≠ a + 3 by omega)).trans k0
  have k1 := ARR_ne (e := .inl (0, cap, .inl (va_cpy f2 f2 ((q : Nat) : Int).toNat ((p : Int) + (bs.length : Int)).toNat ((ws.length : Int) - (q : Int)).toNat))) k1 (show b + 1 ≠ a + 3 by omega)
  have k2 := ARR_ne (e := .inl (0, cap, .inl (va_cpy f2 f2 ((q : Nat) : Int).toNat ((p : Int) + (bs.length : Int)).toNat ((ws.length : Int) - (q : Int)).toNat))) k2 (show b + 2 ≠ a + 3 by omega)
  have k3 := ARR_ne (e := .inl (0, cap, .inl (va_cpy f2 f2 ((q : Nat) : Int).toNat ((p : Int) + (bs.length : Int)).toNat ((ws.length : Int) - (q : Int)).toNat))) k3 (show b + 3 ≠ a + 3 by omega)
  have k4 := ARR_ne (e := .inl (0, cap, .inl (va_cpy f2 f2 ((q : Nat) : Int).toNat ((p : Int) + (bs.length : Int)).toNat ((ws.length : Int) - (q : Int)).toNat))) k4 (show b + 4 ≠ a + 3 by omega)
  have e3 := ARR_eq h11 (a + 3) cap (va_cpy f2 f2 ((q : Nat) : Int).toNat ((p : Int) + (bs.length : Int)).toNat ((ws.length : Int) - (q : Int)).toNat)
  have g3 := OFF_up g2 (c := a + 3) (e := .inl (0, cap, .inl (va_cpy f2 f2 ((q : Nat) : Int).toNat ((p : Int) + (bs.length : Int)).toNat ((ws.length : Int) - (q : Int)).toNat))) (by omega)
  generalize hup h11 (a + 3) _ = h12 at *
  refine wb (gR_e e0 rfl) ?_
  refine wb (gR_e e0 rfl) ?_
  refine wb (cI_e e4 e4 (by omega)) ?_
  have e0 := (hup_ne h12 (e := .inl (0, cap, .inl (va_cpy f3 f3 ((q : Nat) : Int).toNat ((p : Int) + (bs.length : Int)).toNat ((ws.length : Int) - (q : Int)).toNat))) (show a ≠ a + 4 by omega)).trans e0
  have e1 := ARR_ne (e := .inl (0, cap, .inl (va_cpy f3 f3 ((q : Nat) : Int).toNat ((p : Int) + (bs.length : Int)).toNat ((ws.length : Int) - (q : Int)).toNat))) e1 (show a + 1 ≠ a + 4 by omega)
  have e2 := ARR_ne (e := .inl (0, cap, .inl (va_cpy f3 f3 ((q : Nat) : Int).toNat ((p : Int) + (bs.length : Int)).toNat ((ws.length : Int) - (q : Int)).toNat))) e2 (show a + 2 ≠ a + 4 by omega)
  have e3 := ARR_ne (e := .inl (0, cap, .inl (va_cpy f3 f3 ((q : Nat) : Int).toNat ((p : Int) + (bs.length : Int)).toNat ((ws.length : Int) - (q : Int)).toNat))) e3 (show a + 3 ≠ a + 4 by omega)
  have k0 := (hup_ne h12 (e := .inl (0, cap, .inl (va_cpy f3 f3 ((q : Nat) : Int).toNat ((p : Int) + (bs.length : Int)).toNat ((ws.length : Int) - (q : Int)).toNat))) (show b ≠ a + 4 by omega)).trans k0
  have k1 := ARR_ne (e := .inl (0, cap, .inl (va_cpy f3 f3 ((q : Nat) : Int).toNat ((p : Int) + (bs.length : Int)).toNat ((ws.length : Int) - (q : Int)).toNat))) k1 (show b + 1 ≠ a + 4 by omega)
  have k2 := ARR_ne (e := .inl (0, cap, .inl (va_cpy f3 f3 ((q : Nat) : Int).toNat ((p : Int) + (bs.length : Int)).toNat ((ws.length : Int) - (q : Int)).toNat))) k2 (show b + 2 ≠ a + 4 by omega)
  have k3 := ARR_ne (e := .inl (0, cap, .inl (va_cpy f3 f3 ((q : Nat) : Int).toNat ((p : Int) + (bs.length : Int)).toNat ((ws.length : Int) - (q : Int)).toNat))) k3 (show b + 3 ≠ a + 4 by omega)
  have k4 := ARR_ne (e := .inl (0, cap, .inl (va_cpy f3 f3 ((q : Nat) : Int).toNat ((p : Int) + (bs.length : Int)).toNat ((ws.length : Int) - (q : Int)).toNat))) k4 (show b + 4 ≠ a + 4 by omega)
  have e4 := ARR_eq h12 (a + 4) cap (va_cpy f3 f3 ((q : Nat) : Int).toNat ((p : Int) + (bs.length : Int)).toNat ((ws.length : Int) - (q : Int)).toNat)
  have g4 := OFF_up g3 (c := a + 4) (e := .inl (0, cap, .inl (va_cpy f3 f3 ((q : Nat) : Int).toNat ((p : Int) + (bs.length : Int)).toNat ((ws.length : Int) - (q : Int)).toNat))) (by omega)
  generalize hup h12 (a + 4) _ = h13 at *
  refine wb (gR_e k0 rfl) ?_
  refine wb (gR_e e0 rfl) ?_
  refine wb (gI_e k0 rfl) ?_
  refine wb (cI_e k1 e1 (by omega)) ?_
  have e0 := (hup_ne h13 (e := .inl (0, cap, .inl (va_cpy p0 (va_cpy f0 f0 ((q : Nat) : Int).toNat ((p : Int) + (bs.length : Int)).toNat ((ws.length : Int) - (q : Int)).toNat) (0 : Int).toNat ((p : Nat) : Int).toNat ((bs.length : Nat) : Int).toNat))) (show a ≠ a + 1 by omega)).trans e0
  have e2 := ARR_ne (e := .inl (0, cap, .inl (va_cpy p0 (va_cpy f0 f0 ((q : Nat) : Int).toNat ((p : Int) + (bs.length : Int)).toNat ((ws.length : Int) - (q : Int)).toNat) (0 : Int).toNat ((p : Nat) : Int).toNat ((bs.length : Nat) : Int).toNat))) e2 (show a + 2 ≠ a + 1 by omega)
  have e3 := ARR_ne (e := .inl (0, cap, .inl (va_cpy p0 (va_cpy f0 f0 ((q : Nat) : Int).toNat ((p : Int) + (bs.length : Int)).toNat ((ws.length : Int) - (q : Int)).toNat) (0 : Int).toNat ((p : Nat) : Int).toNat ((bs.length : Nat) : Int).toNat))) e3 (show a + 3 ≠ a + 1 by omega)
  have e4 := ARR_ne (e := .inl (0, cap, .inl (va_cpy p0 (va_cpy f0 f0 ((q : Nat) : Int).toNat ((p : Int) + (bs.length : Int)).toNat ((ws.length : Int) - (q : Int)).toNat) (0 : Int).toNat ((p : Nat) : Int).toNat ((bs.length : Nat) : Int).toNat))) e4 (show a + 4 ≠ a + 1 by omega)
  have k0 := (hup_ne h13 (e := .inl (0, cap, .inl (va_cpy p0 (va_cpy f0 f0 ((q : Nat) : Int).toNat ((p : Int) + (bs.length : Int)).toNat ((ws.length : Int) - (q : Int)).toNat) (0 : Int).toNat ((p : Nat) : Int).toNat ((bs.length : Nat) : Int).toNat))) (show b ≠ a + 1 by omega)).trans k0
  have k1 := ARR_ne (e := .inl (0, cap, .inl (va_cpy p0 (va_cpy f0 f0 ((q : Nat) : Int).toNat ((p : Int) + (bs.length : Int)).toNat ((ws.length : Int) - (q : Int)).toNat) (0 : Int).toNat ((p : Nat) : Int).toNat ((bs.length : Nat) : Int).toNat))) k1 (show b + 1 ≠ a + 1 by omega)
  have k2 := ARR_ne (e := .inl (0, cap, .inl (va_cpy p0 (va_cpy f0 f0 ((q : Nat) : Int).toNat ((p : Int) + (bs.length : Int)).toNat ((ws.length : Int) - (q : Int)).toNat) (0 : Int).toNat ((p : Nat) : Int).toNat ((bs.length : Nat) : Int).toNat))) k2 (show b + 2 ≠ a + 1 by omega)
  have k3 := ARR_ne (e := .inl (0, cap, .inl (va_cpy p0 (va_cpy f0 f0 ((q : Nat) : Int).toNat ((p : Int) + (bs.length : Int)).toNat ((ws.length : Int) - (q : Int)).toNat) (0 : Int).toNat ((p : Nat) : Int).toNat ((bs.length : Nat) : Int).toNat))) k3 (show b + 3 ≠ a + 1 by omega)
  have k4 := ARR_ne (e := .inl (0, cap, .inl (va_cpy p0 (va_cpy f0 f0 ((q : Nat) : Int).toNat ((p : Int) + (bs.length : Int)).toNat ((ws.length : Int) - (q : Int)).toNat) (0 : Int).toNat ((p : Nat) : Int).toNat ((bs.length : Nat) : Int).toNat))) k4 (show b + 4 ≠ a + 1 by omega)
  have e1 := ARR_eq h13 (a + 1) cap (va_cpy p0 (va_cpy f0 f0 ((q : Nat) : Int).toNat ((p : Int) + (bs.length : Int)).toNat ((ws.length : Int) - (q : Int)).toNat) (0 : Int).toNat ((p : Nat) : Int).toNat ((bs.length : Nat) : Int).toNat)
  have g5 := OFF_up g4 (c := a + 1) (e := .inl (0, cap, .inl (va_cpy p0 (va_cpy f0 f0 ((q : Nat) : Int).toNat ((p : Int) + (bs.length : Int)).toNat ((ws.length : Int) - (q : Int)).toNat) (0 : Int).toNat ((p : Nat) : Int).toNat ((bs.length : Nat) : Int).toNat))) (by omega)
  generalize hup h13 (a + 1) _ = h14 at *
  refine wb (gR_e k0 rfl) ?_
  refine wb (gR_e e0 rfl) ?_
  refine wb (gI_e k0 rfl) ?_
  refine wb (cI_e k2 e2 (by omega)) ?_
  have e0 := (hup_ne h14 (e := .inl (0, cap, .inl (va_cpy p1 (va_cpy f1 f1 ((q : Nat) : Int).toNat ((p : Int) + (bs.length : Int)).toNat ((ws.length : Int) - (q : Int)).toNat) (0 : Int).toNat ((p : Nat) : Int).toNat ((bs.length : Nat) : Int).toNat))) (show a ≠ a + 2 by omega)).trans e0
  have e1 := ARR_ne (e := .inl (0, cap, .inl (va_cpy p1 (va_cpy f1 f1 ((q : Nat) : Int).toNat ((p : Int) + (bs.length : Int)).toNat ((ws.length : Int) - (q : Int)).toNat) (0 : Int).toNat ((p : Nat) : Int).toNat ((bs.length : Nat) : Int).toNat))) e1 (show a + 1 ≠ a + 2 by omega)
  have e3 := ARR_ne (e := .inl (0, cap, .inl (va_cpy p1 (va_cpy f1 f1 ((q : Nat) : Int).toNat ((p : Int) + (bs.length : Int)).toNat ((ws.length : Int) - (q : Int)).toNat) (0 : Int).toNat ((p : Nat) : Int).toNat ((bs.length : Nat) : Int).toNat))) e3 (show a + 3 ≠ a + 2 by omega)
  have e4 := ARR_ne (e := .inl (0, cap, .inl (va_cpy p1 (va_cpy f1 f1 ((q : Nat) : Int).toNat ((p : Int) + (bs.length : Int)).toNat ((ws.length : Int) - (q : Int)).toNat) (0 : Int).toNat ((p : Nat) : Int).toNat ((bs.length : Nat) : Int).toNat))) e4 (show a + 4 ≠ a + 2 by omega)
  have k0 := (hup_ne h14 (e := .inl (0, cap, .inl (va_cpy p1 (va_cpy f1 f1 ((q : Nat) : Int).toNat ((p : Int) + (bs.length : Int)).toNat ((ws.length : Int) - (q : Int)).toNat) (0 : Int).toNat ((p : Nat) : Int).toNat ((bs.length : Nat) : Int).toNat))) (show b ≠ a + 2 by omega)).trans k0
  have k1 := ARR_ne (e := .inl (0, cap, .inl (va_cpy p1 (va_cpy f1 f1 ((q : Nat) : Int).toNat ((p : Int) + (bs.length : Int)).toNat ((ws.length : Int) - (q : Int)).toNat) (0 : Int).toNat ((p : Nat) : Int).toNat ((bs.length : Nat) : Int).toNat))) k1 (show b + 1 ≠ a + 2 by omega)
  have k2 := ARR_ne (e := .inl (0, cap, .inl (va_cpy p1 (va_cpy f1 f1 ((q : Nat) : Int).toNat ((p : Int) + (bs.length : Int)).toNat ((ws.length : Int) - (q : Int)).toNat) (0 : Int).toNat ((p : Nat) : Int).toNat ((bs.length : Nat) : Int).toNat))) k2 (show b + 2 ≠ a + 2 by omega)
  have k3 := ARR_ne (e := .inl (0, cap, .inl (va_cpy p1 (va_cpy f1 f1 ((q : Nat) : Int).toNat ((p : Int) + (bs.length : Int)).toNat ((ws.length : Int) - (q : Int)).toNat) (0 : Int).toNat ((p : Nat) : Int).toNat ((bs.length : Nat) : Int).toNat))) k3 (show b + 3 ≠ a + 2 by omega)
  have k4 := ARR_ne (e := .inl (0, cap, .inl (va_cpy p1 (va_cpy f1 f1 ((q : Nat) : Int).toNat ((p : Int) + (bs.length : Int)).toNat ((ws.length : Int) - (q : Int)).toNat) (0 : Int).toNat ((p : Nat) : Int).toNat ((bs.length : Nat) : Int).toNat))) k4 (show b + 4 ≠ a + 2 by omega)
  have e2 := ARR_eq h14 (a + 2) cap (va_cpy p1 (va_cpy f1 f1 ((q : Nat) : Int).toNat ((p : Int) + (bs.length : Int)).toNat ((ws.length : Int) - (q : Int)).toNat) (0 : Int).toNat ((p : Nat) : Int).toNat ((bs.length : Nat) : Int).toNat)
  have g6 := OFF_up g5 (c := a + 2) (e := .inl (0, cap, .inl (va_cpy p1 (va_cpy f1 f1 ((q : Nat) : Int).toNat ((p : Int) + (bs.length : Int)).toNat ((ws.length : Int) - (q : Int)).toNat) (0 : Int).toNat ((p : Nat) : Int).toNat ((bs.length : Nat) : Int).toNat))) (by omega)
  generalize hup h14 (a + 2) _ = h15 at *
  refine wb (gR_e k0 rfl) ?_
  refine wb (gR_e e0 rfl) ?_
  refine wb (gI_e k0 rfl) ?_
  refine wb (cI_e k3 e3 (by omega)) ?_
  have e0 := (hup_ne h15 (e := .inl (0, cap, .inl (va_cpy p2 (va_cpy f2 f2 ((q : Nat) : Int).toNat ((p : Int) + (bs.length : Int)).toNat ((ws.length : Int) - (q : Int)).toNat) (0 : Int).toNat ((p : Nat) : Int).toNat ((bs.length : Nat) : Int).toNat))) (show a ≠ a + 3 by omega)).trans e0
  have e1 := ARR_ne (e := .inl (0, cap, .inl (va_cpy p2 (va_cpy f2 f2 ((q : Nat) : Int).toNat ((p : Int) + (bs.length : Int)).toNat ((ws.length : Int) - (q : Int)).toNat) (0 : Int).toNat ((p : Nat) : Int).toNat ((bs.length : Nat) : Int).toNat))) e1 (show a + 1 ≠ a + 3 by omega)
  have e2 := ARR_ne (e := .inl (0, cap, .inl (va_cpy p2 (va_cpy f2 f2 ((q : Nat) : Int).toNat ((p : Int) + (bs.length : Int)).toNat ((ws.length : Int) - (q : Int)).toNat) (0 : Int).toNat ((p : Nat) : Int).toNat ((bs.length : Nat) : Int).toNat))) e2 (show a + 2 ≠ a + 3 by omega)
  have e4 := ARR_ne (e := .inl (0, cap, .inl (va_cpy p2 (va_cpy f2 f2 ((q : Nat) : Int).toNat ((p : Int) + (bs.length : Int)).toNat ((ws.length : Int) - (q : Int)).toNat) (0 : Int).toNat ((p : Nat) : Int).toNat ((bs.length : Nat) : Int).toNat))) e4 (show a + 4 ≠ a + 3 by omega)
  have k0 := (hup_ne h15 (e := .inl (0, cap, .inl (va_cpy p2 (va_cpy f2 f2 ((q : Nat) : Int).toNat ((p : Int) + (bs.length : Int)).toNat ((ws.length : Int) - (q : Int)).toNat) (0 : Int).toNat ((p : Nat) : Int).toNat ((bs.length : Nat) : Int).toNat))) (show b ≠ a + 3 by omega)).trans k0
  have k1 := ARR_ne (e := .inl (0, cap, .inl (va_cpy p2 (va_cpy f2 f2 ((q : Nat) : Int).toNat ((p : Int) + (bs.length : Int)).toNat ((ws.length : Int) - (q : Int)).toNat) (0 : Int).toNat ((p : Nat) : Int).toNat ((bs.length : Nat) : Int).toNat))) k1 (show b + 1 ≠ a + 3 by omega)
  have k2 := ARR_ne (e := .inl (0, cap, .inl (va_cpy p2 (va_cpy f2 f2 ((q : Nat) : Int).toNat ((p : Int) + (bs.length : Int)).toNat ((ws.length : Int) - (q : Int)).toNat) (0 : Int).toNat ((p : Nat) : Int).toNat ((bs.length : Nat) : Int).toNat))) k2 (show b + 2 ≠ a + 3 by omega)
  have k3 := ARR_ne (e := .inl (0, cap, .inl (va_cpy p2 (va_cpy f2 f2 ((q : Nat) : Int).toNat ((p : Int) + (bs.length : Int)).toNat ((ws.length : Int) - (q : Int)).toNat) (0 : Int).toNat ((p : Nat) : Int).toNat ((bs.length : Nat) : Int).toNat))) k3 (show b + 3 ≠ a + 3 by omega)
  have k4 := ARR_ne (e := .inl (0, cap, .inl (va_cpy p2 (va_cpy f2 f2 ((q : Nat) : Int).toNat ((p : Int) + (bs.length : Int)).toNat ((ws.length : Int) - (q : Int)).toNat) (0 : Int).toNat ((p : Nat) : Int).toNat ((bs.length : Nat) : Int).toNat))) k4 (show b + 4 ≠ a + 3 by omega)
  have e3 := ARR_eq h15 (a + 3) cap (va_cpy p2 (va_cpy f2 f2 ((q : Nat) : Int).toNat ((p : Int) + (bs.length : Int)).toNat ((ws.length : Int) - (q : Int)).toNat) (0 : Int).toNat ((p : Nat) : Int).toNat ((bs.length : Nat) : Int).toNat)
  have g7 := OFF_up g6 (c := a + 3) (e := .inl (0, cap, .inl (va_cpy p2 (va_cpy f2 f2 ((q : Nat) : Int).toNat ((p : Int) + (bs.length : Int)).toNat ((ws.length : Int) - (q : Int)).toNat) (0 : Int).toNat ((p : Nat) : Int).toNat ((bs.length : Nat) : Int).toNat))) (by omega)
  generalize hup h15 (a + 3) _ = h16 at *
  refine wb (gR_e k0 rfl) ?_
  refine wb (gR_e e0 rfl) ?_
  refine wb (gI_e k0 rfl) ?_
  refine wb (cI_e k4 e4 (by omega)) ?_
  have e0 := (hup_ne h16 (e := .inl (0, cap, .inl (va_cpy p3 (va_cpy f3 f3 ((q : Nat) : Int).toNat ((p : Int) + (bs.length : Int)).toNat ((ws.length : Int) - (q : Int)).toNat) (0 : Int).toNat ((p : Nat) : Int).toNat ((bs.length : Nat) : Int).toNat))) (show a ≠ a + 4 by omega)).trans e0
  have e1 := ARR_ne (e := .inl (0, cap, .inl (va_cpy p3 (va_cpy f3 f3 ((q : Nat) : Int).toNat ((p : Int) + (bs.length : Int)).toNat ((ws.length : Int) - (q : Int)).toNat) (0 : Int).toNat ((p : Nat) : Int).toNat ((bs.length : Nat) : Int).toNat))) e1 (show a + 1 ≠ a + 4 by omega)
  have e2 := ARR_ne (e := .inl (0, cap, .inl (va_cpy p3 (va_cpy f3 f3 ((q : Nat) : Int).toNat ((p : Int) + (bs.length : Int)).toNat ((ws.length : Int) - (q : Int)).toNat) (0 : Int).toNat ((p : Nat) : Int).toNat ((bs.length : Nat) : Int).toNat))) e2 (show a + 2 ≠ a + 4 by omega)
  have e3 := ARR_ne (e := .inl (0, cap, .inl (va_cpy p3 (va_cpy f3 f3 ((q : Nat) : Int).toNat ((p : Int) + (bs.length : Int)).toNat ((ws.length : Int) - (q : Int)).toNat) (0 : Int).toNat ((p : Nat) : Int).toNat ((bs.length : Nat) : Int).toNat))) e3 (show a + 3 ≠ a + 4 by omega)
  have k0 := (hup_ne h16 (e := .inl (0, cap, .inl (va_cpy p3 (va_cpy f3 f3 ((q : Nat) : Int).toNat ((p : Int) + (bs.length : Int)).toNat ((ws.length : Int) - (q : Int)).toNat) (0 : Int).toNat ((p : Nat) : Int).toNat ((bs.length : Nat) : Int).toNat))) (show b ≠ a + 4 by omega)).trans k0
  have k1 := ARR_ne (e := .inl (0, cap, .inl (va_cpy p3 (va_cpy f3 f3 ((q : Nat) : Int).toNat ((p : Int) + (bs.length : Int)).toNat ((ws.length : Int) - (q : Int)).toNat) (0 : Int).toNat ((p : Nat) : Int).toNat ((bs.length : Nat) : Int).toNat))) k1 (show b + 1 ≠ a + 4 by omega)
  have k2 := ARR_ne (e := .inl (0, cap, .inl (va_cpy p3 (va_cpy f3 f3 ((q : Nat) : Int).toNat ((p : Int) + (bs.length : Int)).toNat ((ws.length : Int) - (q : Int)).toNat) (0 : Int).toNat ((p : Nat) : Int).toNat ((bs.length : Nat) : Int).toNat))) k2 (show b + 2 ≠ a + 4 by omega)
  have k3 := ARR_ne (e := .inl (0, cap, .inl (va_cpy p3 (va_cpy f3 f3 ((q : Nat) : Int).toNat ((p : Int) + (bs.length : Int)).toNat ((ws.length : Int) - (q : Int)).toNat) (0 : Int).toNat ((p : Nat) : Int).toNat ((bs.length : Nat) : Int).toNat))) k3 (show b + 3 ≠ a + 4 by omega)
  have k4 := ARR_ne (e := .inl (0, cap, .inl (va_cpy p3 (va_cpy f3 f3 ((q : Nat) : Int).toNat ((p : Int) + (bs.length : Int)).toNat ((ws.length : Int) - (q : Int)).toNat) (0 : Int).toNat ((p : Nat) : Int).toNat ((bs.length : Nat) : Int).toNat))) k4 (show b + 4 ≠ a + 4 by omega)
  have e4 := ARR_eq h16 (a + 4) cap (va_cpy p3 (va_cpy f3 f3 ((q : Nat) : Int).toNat ((p : Int) + (bs.length : Int)).toNat ((ws.length : Int) - (q : Int)).toNat) (0 : Int).toNat ((p : Nat) : Int).toNat ((bs.length : Nat) : Int).toNat)
  have g8 := OFF_up g7 (c := a + 4) (e := .inl (0, cap, .inl (va_cpy p3 (va_cpy f3 f3 ((q : Nat) : Int).toNat ((p : Int) + (bs.length : Int)).toNat ((ws.length : Int) - (q : Int)).toNat) (0 : Int).toNat ((p : Nat) : Int).toNat ((bs.length : Nat) : Int).toNat))) (by omega)
  generalize hup h16 (a + 4) _ = h17 at *
  refine wb (pI_e e0 (show 4 < 5 by omega)) ?_
  refine wr ⟨?_, OFF_up g8 (by omega)⟩
  have hq : ((p : Int) + (bs.length : Int)).toNat = p + bs.length := by omega
  have hr : ((ws.length : Int) - (q : Int)).toNat = ws.length - q := by omega
  simp only [List.set_cons_succ, List.set_cons_zero, Int.toNat_natCast, Int.toNat_zero, hq, hr] at e1 e2 e3 e4 ⊢
  refine ⟨_, _, _, _, (hup_same _ _ _).trans ?_, ARR_ne e1 (by omega), ARR_ne e2 (by omega), ARR_ne e3 (by omega), ARR_ne e4 (by omega), ?_, r2, COLU_rep c0 d0 h1 h2, COLU_rep c1 d1 h1 h2, COLU_rep c2 d2 h1 h2, COLU_rep c3 d3 h1 h2⟩
  · have hl : (((ws.take p ++ bs ++ ws.drop q).length : Nat) : Int) = (p : Int) + (bs.length : Int) + ((ws.length : Int) - (q : Int)) := by
      rw [List.length_append, List.length_append, List.length_take, List.length_drop]
      omega
    rw [hl]
  · rw [List.length_append, List.length_append, List.length_take, List.length_drop]
    omega
