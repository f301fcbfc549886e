theorem MOB_row {h : HP} {m : Nat} {v w : Nat → Int32} (e : MOB h m v) (k : MOB h m w) : mrow m v = mrow m w := (Prod.mk.inj (Sum.inr.inj (Option.some.inj (e.symm.trans k)))).2
theorem MOB_4 {h : HP} {m : Nat} {v w : Nat → Int32} (e : MOB h m v) (k : MOB h m w) : v 4 = w 4 := by
  have h2 : (mrow m v)[4]? = (mrow m w)[4]? := by rw [MOB_row e k]
  exact Value.int.inj (Option.some.inj h2)
theorem rem_shift {m : Nat} {v : Nat → Int32} {f : Nat → Int32} {h0 : HP} (hv : v 4 = zI 14) {P : HP → Prop} (hk : ∀ h' g', MOB h' m (upd v 4 (zI 13)) → ARR h' (m + 3) 2856 g' → (∀ i : Nat, g' i = if i < 2652 then f (204 + i) else f i) → OFF m 4 h0 h' → (∀ b, b = m + 1 ∨ b = m + 2 → h' b = h0 b) → WP (b_X8_remember_52 m FU h' (zI 0)) P) : ∀ (r n : Nat) (h : HP) (g : Nat → Int32) (j : Nat), r < n → j + r = 2652 → MOB h m v → ARR h (m + 3) 2856 g → OFF m 4 h0 h → (∀ i : Nat, g i = if i < j then f (204 + i) else f i) → (∀ b, b = m + 1 ∨ b = m + 2 → h b = h0 b) → WP (b_X8_remember_11 m n h (zI j)) P := by
  intro r
  induction r with
  | zero =>
    intro n h g j hn hj e0 e2 o hg hb
    obtain ⟨n, rfl⟩ : ∃ k, n = k + 1 := ⟨n - 1, by omega⟩
    unfold b_X8_remember_11 c_X8_remember_11
    rw [show (2652 : Int32) = zI 2652 by decide, zl0, zl1]
    refine wt ((zI_le (by omega)).mpr (by omega)) ?_
    refine wb (gI_e e0 rfl) ?_
    rw [hv, zI_sub]
    refine wb (pI_e2 (fs2 := mrow m (upd v 4 (zI (14 - 1)))) e0 (show 4 < 17 by omega) rfl) ?_
    refine hk _ g (hup_same _ _ _) (ARR_ne e2 (by omega)) (fun i => ?_) (OFF_up o (by omega)) (fun b hb2 => (hup_ne _ _ (by omega)).trans (hb b hb2))
    rw [hg i, show j = 2652 by omega]
  | succ r ih =>
    intro n h g j hn hj e0 e2 o hg hb
    obtain ⟨n, rfl⟩ : ∃ k, n = k + 1 := ⟨n - 1, by omega⟩
    unfold b_X8_remember_11 c_X8_remember_11
    simp only [show (2652 : Int32) = zI 2652 by decide, show (204 : Int32) = zI 204 by decide, zl1, zI_add]
    refine wf (fun d => absurd ((zI_le (by omega)).mp d) (by omega)) ?_
    refine wb (gR_e e0 rfl) ?_
    refine wb (gR_e e0 rfl) ?_
    refine wb (aI_e e2 (by omega)) ?_
    refine wb (wI_e e2 (by omega)) ?_
    have h1 := ih n (hup h (m + 3) (.inl (0, 2856, .inl (upd g (j : Int).toNat (g (204 + (j : Int)).toNat))))) (upd g (j : Int).toNat (g (204 + (j : Int)).toNat)) (j + 1) (by omega) (by omega) ((hup_ne _ _ (by omega)).trans e0) (ARR_eq _ _ _ _) (OFF_up o (by omega)) (fun i => by
      by_cases c : i = j
      · rw [upd_eq (by omega), if_pos (by omega), hg, if_neg (by omega), show (204 + (j : Int)).toNat = 204 + i by omega]
      · rw [upd_ne (by omega), hg i]
        by_cases c2 : i < j
        · rw [if_pos c2, if_pos (by omega)]
        · rw [if_neg c2, if_neg (by omega)]) (fun b hb2 => (hup_ne _ _ (by omega)).trans (hb b hb2))
    rw [cast1] at h1
    exact h1
/-- one state more is remembered, of at most 14 -/
def push (l : List SG) (S : SG) : List SG := (if l.length = 14 then l.tail else l) ++ [S]
theorem X8_remember_is {h : HP} {m : Nat} {S : SG} {l : List SG} {v : Nat → Int32} (e0 : MOB h m v) (e : REF h m S) (k : HIS h m l) : WP (f_X8_remember h m) (fun h' => REF h' m S ∧ HIS h' m (push l S) ∧ OFF m 4 h h' ∧ (∀ b, b = m + 1 ∨ b = m + 2 → h' b = h b) ∧ ∃ w, MOB h' m w ∧ ∀ i : Nat, i ≠ 4 → w i = v i) := by
  obtain ⟨v0, f, -, e1, q⟩ := e
  obtain ⟨v', g, k0, k1, k2, k3, k4⟩ := k
  have h4 : v 4 = zI l.length := (MOB_4 e0 k0).trans k2
  unfold f_X8_remember b_X8_remember_0
  refine wb (kO_e e0) ?_
  refine wb (gI_e e0 rfl) ?_
  rw [h4, show (14 : Int32) = zI 14 by decide, zl0]
  by_cases c : l.length = 14
  · refine wt ((zI_inj (by omega)).mpr (by omega)) ?_
    have hv : v 4 = zI 14 := by
      rw [h4, c]
      rfl
    refine rem_shift (f := g) (h0 := h) hv (fun h1 g1 a0 a1 a2 a3 a4 => ?_) 2652 FU h g 0 (by unfold FU; omega) (by omega) e0 k1 (OFF_refl _ _ _) (fun i => by rw [if_neg (by omega)]) (fun _ _ => rfl)
    have hw := rem_copy (m := m) (v := upd v 4 (zI 13)) (f := f) (h0 := h) (s := 13) (by omega) (upd_eq rfl) (g0 := g1) 204 FU h1 g1 0 (by unfold FU; omega) (by omega) a0 ((a4 _ (Or.inl rfl)).trans e1) a1 a3 (fun i => by rw [if_neg (by omega)]) a4
    refine wm hw ?_
    rintro h2 ⟨g2, d0, d1, d2, d3, d4⟩
    refine ⟨⟨_, f, d0, (d4 _ (Or.inl rfl)).trans e1, q⟩, ⟨_, g2, d0, d1, ?_, ?_, fun i hi => ?_⟩, d3, d4, _, d0, fun i hi => ?_⟩
    · unfold push
      rw [if_pos c, List.length_append, List.length_tail, List.length_singleton, upd_eq rfl, c]
    · unfold push
      rw [if_pos c, List.length_append, List.length_tail, List.length_singleton, c]
      omega
    · unfold push at hi ⊢
      simp only [if_pos c] at hi ⊢
      rw [List.length_append, List.length_tail, List.length_singleton] at hi
      by_cases c2 : i = 13
      · rw [List.getElem_append_right (by rw [List.length_tail]; omega)]
        simp only [List.getElem_singleton]
        refine RW_ext q fun x hx => ?_
        rw [d2, if_pos (by omega)]
        exact congrArg _ (by omega)
      · rw [List.getElem_append_left (by rw [List.length_tail]; omega), List.getElem_tail]
        refine RW_ext (k4 (i + 1) (by omega)) fun x hx => ?_
        rw [d2, if_neg (by omega), a2, if_pos (by omega)]
        exact congrArg _ (by omega)
    · rw [upd_ne hi, upd_ne hi]
  · refine wf (fun d => c (by have := (zI_inj (by omega)).mp d; omega)) ?_
    have hw := rem_copy (m := m) (v := v) (f := f) (h0 := h) (s := l.length) (by omega) h4 (g0 := g) 204 FU h g 0 (by unfold FU; omega) (by omega) e0 e1 k1 (OFF_refl _ _ _) (fun i => by rw [if_neg (by omega)]) (fun _ _ => rfl)
    refine wm hw ?_
    rintro h2 ⟨g2, d0, d1, d2, d3, d4⟩
    refine ⟨⟨_, f, d0, (d4 _ (Or.inl rfl)).trans e1, q⟩, ⟨_, g2, d0, d1, ?_, ?_, fun i hi => ?_⟩, d3, d4, _, d0, fun i hi => ?_⟩
    · unfold push
      rw [if_neg c, List.length_append, List.length_singleton, upd_eq rfl]
    · unfold push
      rw [if_neg c, List.length_append, List.length_singleton]
      omega
    · unfold push at hi ⊢
      simp only [if_neg c] at hi ⊢
      rw [List.length_append, List.length_singleton] at hi
      by_cases c2 : i = l.length
      · rw [List.getElem_append_right (by omega)]
        simp only [List.getElem_singleton]
        refine RW_ext q fun x hx => ?_
        rw [d2, if_pos (by omega)]
        exact congrArg _ (by omega)
      · rw [List.getElem_append_left (by omega)]
        refine RW_ext (k4 i (by omega)) fun x hx => ?_
        rw [d2, if_neg (by omega)]
    · rw [upd_ne hi]
