/-! the reference: copies of the row -/
theorem RW_ext {f g : Nat → Int32} {S : SG} (H : RW f S) (k : ∀ i : Nat, i < 204 → g i = f i) : RW g S := by
  obtain ⟨⟨b1, b2, b3⟩, q0, q1, q2, q3, q4, q5, q6, q7⟩ := H
  refine ⟨⟨b1, b2, b3⟩, (k _ (by omega)).trans q0, fun i hi => (k _ (by omega)).trans (q1 i hi), (k _ (by omega)).trans q2, (k _ (by omega)).trans q3, fun i hi => (k _ (by omega)).trans (q4 i hi), (k _ (by omega)).trans q5, (k _ (by omega)).trans q6, fun j hj => ?_⟩
  have hh := q7 j hj
  exact ⟨(k _ (by omega)).trans hh.1, (k _ (by omega)).trans hh.2.1, (k _ (by omega)).trans hh.2.2.1, (k _ (by omega)).trans hh.2.2.2⟩
theorem putAside_loop {m : Nat} {v : Nat → Int32} {f : Nat → Int32} {h0 : HP} : ∀ (r n : Nat) (h : HP) (g : Nat → Int32) (j : Nat), r < n → j + r = 204 → MOB h m v → ARR h (m + 1) 204 f → ARR h (m + 2) 204 g → OFF (m + 2) 1 h0 h → (∀ i : Nat, i < j → g i = f i) → WP (b_X8_putAside_2 m n h (zI j)) (fun h' => (∃ g', ARR h' (m + 2) 204 g' ∧ ∀ i : Nat, i < 204 → g' i = f i) ∧ OFF (m + 2) 1 h0 h') := by
  intro r
  induction r with
  | zero =>
    intro n h g j hn hj e0 e1 e2 o hg
    obtain ⟨n, rfl⟩ : ∃ k, n = k + 1 := ⟨n - 1, by omega⟩
    unfold b_X8_putAside_2 c_X8_putAside_2
    rw [show (204 : Int32) = zI 204 by decide]
    refine wt ((zI_le (by omega)).mpr (by omega)) ?_
    exact wr ⟨⟨g, e2, fun i hi => hg i (by omega)⟩, o⟩
  | succ r ih =>
    intro n h g j hn hj e0 e1 e2 o hg
    obtain ⟨n, rfl⟩ : ∃ k, n = k + 1 := ⟨n - 1, by omega⟩
    unfold b_X8_putAside_2 c_X8_putAside_2
    simp only [show (204 : Int32) = zI 204 by decide, zl1, zI_add]
    refine wf (fun d => absurd ((zI_le (by omega)).mp d) (by omega)) ?_
    refine wb (gR_e e0 rfl) ?_
    refine wb (gR_e e0 rfl) ?_
    refine wb (aI_e e1 (by omega)) ?_
    refine wb (wI_e e2 (by omega)) ?_
    have h1 := ih n (hup h (m + 2) (.inl (0, 204, .inl (upd g (j : Int).toNat (f (j : Int).toNat))))) (upd g (j : Int).toNat (f (j : Int).toNat)) (j + 1) (by omega) (by omega) ((hup_ne _ _ (by omega)).trans e0) (ARR_ne e1 (by omega)) (ARR_eq _ _ _ _) (OFF_up o (by omega)) (fun i hi => by
      by_cases c : i = j
      · rw [upd_eq (by omega), Int.toNat_natCast, c]
      · rw [upd_ne (by omega), hg i (by omega)])
    rw [cast1] at h1
    exact h1
theorem putBack_loop {m : Nat} {v : Nat → Int32} {f : Nat → Int32} {h0 : HP} : ∀ (r n : Nat) (h : HP) (g : Nat → Int32) (j : Nat), r < n → j + r = 204 → MOB h m v → ARR h (m + 2) 204 f → ARR h (m + 1) 204 g → OFF (m + 1) 1 h0 h → (∀ i : Nat, i < j → g i = f i) → WP (b_X8_putBack_2 m n h (zI j)) (fun h' => (∃ g', ARR h' (m + 1) 204 g' ∧ ∀ i : Nat, i < 204 → g' i = f i) ∧ OFF (m + 1) 1 h0 h') := by
  intro r
  induction r with
  | zero =>
    intro n h g j hn hj e0 e1 e2 o hg
    obtain ⟨n, rfl⟩ : ∃ k, n = k + 1 := ⟨n - 1, by omega⟩
    unfold b_X8_putBack_2 c_X8_putBack_2
    rw [show (204 : Int32) = zI 204 by decide]
    refine wt ((zI_le (by omega)).mpr (by omega)) ?_
    exact wr ⟨⟨g, e2, fun i hi => hg i (by omega)⟩, o⟩
  | succ r ih =>
    intro n h g j hn hj e0 e1 e2 o hg
    obtain ⟨n, rfl⟩ : ∃ k, n = k + 1 := ⟨n - 1, by omega⟩
    unfold b_X8_putBack_2 c_X8_putBack_2
    simp only [show (204 : Int32) = zI 204 by decide, zl1, zI_add]
    refine wf (fun d => absurd ((zI_le (by omega)).mp d) (by omega)) ?_
    refine wb (gR_e e0 rfl) ?_
    refine wb (gR_e e0 rfl) ?_
    refine wb (aI_e e1 (by omega)) ?_
    refine wb (wI_e e2 (by omega)) ?_
    have h1 := ih n (hup h (m + 1) (.inl (0, 204, .inl (upd g (j : Int).toNat (f (j : Int).toNat))))) (upd g (j : Int).toNat (f (j : Int).toNat)) (j + 1) (by omega) (by omega) ((hup_ne _ _ (by omega)).trans e0) (ARR_ne e1 (by omega)) (ARR_eq _ _ _ _) (OFF_up o (by omega)) (fun i hi => by
      by_cases c : i = j
      · rw [upd_eq (by omega), Int.toNat_natCast, c]
      · rw [upd_ne (by omega), hg i (by omega)])
    rw [cast1] at h1
    exact h1
theorem X8_putAside_is {h : HP} {m : Nat} {S : SG} {g : Nat → Int32} (e : REF h m S) (k : ARR h (m + 2) 204 g) : WP (f_X8_putAside h m) (fun h' => (∃ g', ARR h' (m + 2) 204 g' ∧ RW g' S) ∧ OFF (m + 2) 1 h h') := by
  obtain ⟨v, f, e0, e1, q⟩ := e
  unfold f_X8_putAside b_X8_putAside_0
  refine wb (kO_e e0) ?_
  rw [zl0]
  have := putAside_loop (h0 := h) 204 FU h g 0 (by unfold FU; omega) (by omega) e0 e1 k (OFF_refl _ _ _) (fun i hi => absurd hi (by omega))
  refine wm this ?_
  rintro h' ⟨⟨g', k1, k2⟩, o⟩
  exact ⟨⟨g', k1, RW_ext q k2⟩, o⟩
theorem X8_putBack_is {h : HP} {m : Nat} {S : SG} {v f g : Nat → Int32} (e0 : MOB h m v) (e1 : ARR h (m + 1) 204 f) (k : ARR h (m + 2) 204 g) (q : RW g S) : WP (f_X8_putBack h m) (fun h' => REF h' m S ∧ OFF (m + 1) 1 h h') := by
  unfold f_X8_putBack b_X8_putBack_0
  refine wb (kO_e e0) ?_
  rw [zl0]
  have := putBack_loop (h0 := h) 204 FU h f 0 (by unfold FU; omega) (by omega) e0 k e1 (OFF_refl _ _ _) (fun i hi => absurd hi (by omega))
  refine wm this ?_
  rintro h' ⟨⟨g', k1, k2⟩, o⟩
  exact ⟨⟨v, g', (o _ (by omega)).trans e0, k1, RW_ext q k2⟩, o⟩
/-! the states that the reference remembers -/
def HIS (h : HP) (m : Nat) (l : List SG) : Prop := ∃ v f, MOB h m v ∧ ARR h (m + 3) 2856 f ∧ v 4 = zI l.length ∧ l.length ≤ 14 ∧ ∀ i : Nat, ∀ hi : i < l.length, RW (fun x => f (204 * i + x)) l[i]
theorem rem_copy {m : Nat} {v : Nat → Int32} {f : Nat → Int32} {h0 : HP} {s : Nat} (hs : s < 14) (hv : v 4 = zI s) {g0 : Nat → Int32} : ∀ (r n : Nat) (h : HP) (g : Nat → Int32) (j : Nat), r < n → j + r = 204 → MOB h m v → ARR h (m + 1) 204 f → ARR h (m + 3) 2856 g → OFF m 4 h0 h → (∀ i : Nat, g i = if 204 * s ≤ i ∧ i < 204 * s + j then f (i - 204 * s) else g0 i) → (∀ b, b = m + 1 ∨ b = m + 2 → h b = h0 b) → WP (b_X8_remember_52 m n h (zI j)) (fun h' => ∃ g', MOB h' m (upd v 4 (zI (s + 1 : Nat))) ∧ ARR h' (m + 3) 2856 g' ∧ (∀ i : Nat, g' i = if 204 * s ≤ i ∧ i < 204 * s + 204 then f (i - 204 * s) else g0 i) ∧ OFF m 4 h0 h' ∧ (∀ b, b = m + 1 ∨ b = m + 2 → h' b = h0 b)) := by
  intro r
  induction r with
  | zero =>
    intro n h g j hn hj e0 e1 e2 o hg hb
    obtain ⟨n, rfl⟩ : ∃ k, n = k + 1 := ⟨n - 1, by omega⟩
    unfold b_X8_remember_52 c_X8_remember_52
    rw [show (204 : Int32) = zI 204 by decide, zl1]
    refine wt ((zI_le (by omega)).mpr (by omega)) ?_
    refine wb (gI_e e0 rfl) ?_
    rw [hv, zI_add]
    refine wb (pI_e2 (fs2 := mrow m (upd v 4 (zI (s + 1 : Nat)))) e0 (show 4 < 17 by omega) rfl) ?_
    refine wr ⟨g, hup_same _ _ _, ARR_ne e2 (by omega), fun i => ?_, OFF_up o (by omega), fun b hb2 => (hup_ne _ _ (by omega)).trans (hb b hb2)⟩
    rw [hg i, show j = 204 by omega]
  | succ r ih =>
    intro n h g j hn hj e0 e1 e2 o hg hb
    obtain ⟨n, rfl⟩ : ∃ k, n = k + 1 := ⟨n - 1, by omega⟩
    unfold b_X8_remember_52 c_X8_remember_52
    simp only [show (204 : Int32) = zI 204 by decide, zl1]
    refine wf (fun d => absurd ((zI_le (by omega)).mp d) (by omega)) ?_
    refine wb (gR_e e0 rfl) ?_
    refine wb (gI_e e0 rfl) ?_
    refine wb (gR_e e0 rfl) ?_
    refine wb (aI_e e1 (by omega)) ?_
    rw [hv]
    simp only [zI_mul, zI_add]
    refine wb (wI_e e2 (by omega)) ?_
    have h1 := ih n (hup h (m + 3) (.inl (0, 2856, .inl (upd g (204 * (s : Int) + j).toNat (f (j : Int).toNat))))) (upd g (204 * (s : Int) + j).toNat (f (j : Int).toNat)) (j + 1) (by omega) (by omega) ((hup_ne _ _ (by omega)).trans e0) (ARR_ne e1 (by omega)) (ARR_eq _ _ _ _) (OFF_up o (by omega)) (fun i => by
      by_cases c : i = 204 * s + j
      · rw [upd_eq (by omega), if_pos (by omega), Int.toNat_natCast, show i - 204 * s = j by omega]
      · rw [upd_ne (by omega), hg i]
        by_cases c2 : 204 * s ≤ i ∧ i < 204 * s + j
        · rw [if_pos c2, if_pos (by omega)]
        · rw [if_neg c2, if_neg (by omega)]) (fun b hb2 => (hup_ne _ _ (by omega)).trans (hb b hb2))
    rw [cast1] at h1
    exact h1
