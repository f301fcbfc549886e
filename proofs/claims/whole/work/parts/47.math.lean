/-! the states that the class remembers -/
theorem zI_jrem {a b : Nat} (ha : a < 2147483648) (hb : 0 < b ∧ b < 2147483648) : jrem (zI a) (zI b) = zI (a % b : Nat) := by
  unfold jrem
  rw [← zI_nat, ← zI_nat, ← zI_nat]
  exact pk_rem (by omega) hb.1 (by omega)
theorem aR_e {kd : Nat} {h : HP} {a n : Nat} {f : Nat → Option Nat} {z : Int} {x : Nat} (e : h a = some (.inl (kd, n, .inr (.inr (.inr (.inr f)))))) (hz : 0 ≤ z ∧ z < n ∧ (n : Int) < 2147483648) (hv : f z.toNat = some x) : aR kd h a (zI z) = some x := by
  have h1 := zI_in hz
  unfold aR
  rw [e]
  simp only [if_true]
  rw [if_neg h1, zI_clamp (by omega), hv]
def HISC (h : HP) (cl q : Nat) (l : List SG) : Prop := ∃ (o : Nat) (G : Nat → Option Nat), h q = some (.inr (1, [.ref (q + 1), .int (zI o), .int (zI l.length)])) ∧ h (q + 1) = some (.inl (4, 14, .inr (.inr (.inr (.inr G))))) ∧ (∀ i : Nat, i < 14 → G i = some (q + 2 + 8 * i)) ∧ o < 14 ∧ l.length ≤ 14 ∧ (∀ i : Nat, i < 14 → ∃ S, STO h cl (q + 2 + 8 * i) 48 S) ∧ ∀ i : Nat, ∀ hi : i < l.length, STO h cl (q + 2 + 8 * ((o + i) % 14)) 48 l[i]
theorem X1_size_is {h : HP} {cl q : Nat} {l : List SG} (e : HISC h cl q l) : f_X1_size h q = some (zI l.length) := by
  obtain ⟨o, G, e0, -⟩ := e
  unfold f_X1_size b_X1_size_0
  rw [kO_e e0, Option.bind_some, gI_e e0 rfl]
  rfl
theorem X1_forgetAll_is {h : HP} {cl q : Nat} {l : List SG} (e : HISC h cl q l) : WP (f_X1_forgetAll h q) (fun h' => HISC h' cl q [] ∧ OFF q 1 h h') := by
  obtain ⟨o, G, e0, e1, e2, e3, e4, e5, e6⟩ := e
  unfold f_X1_forgetAll b_X1_forgetAll_0
  rw [zl0]
  refine wb (kO_e e0) ?_
  refine wb (pI_e2 (fs2 := [.ref (q + 1), .int (zI 0), .int (zI l.length)]) e0 (show 1 < 3 by omega) rfl) ?_
  refine wb (pI_e2 (fs2 := [.ref (q + 1), .int (zI 0), .int (zI 0)]) (hup_same _ _ _) (show 2 < 3 by omega) rfl) ?_
  refine wr ⟨⟨0, G, hup_same _ _ _, (hup_ne _ _ (by omega)).trans ((hup_ne _ _ (by omega)).trans e1), e2, by omega, Nat.zero_le _, fun i hi => ?_, fun i hi => absurd hi (Nat.not_lt_zero _)⟩, OFF_up (OFF_up (OFF_refl _ _ _) (by omega)) (by omega)⟩
  obtain ⟨S, hS⟩ := e5 i hi
  exact ⟨S, STO_off hS (OFF_up (OFF_up (OFF_refl q 1 h) (by omega)) (by omega)) (by omega)⟩
theorem rem32 {h : HP} {cl q st cap dl : Nat} {T : SG} {l : List SG} (e : HISC h cl q l) (hl : l.length < 14) (k : STO h dl st cap T) (hT : T.1.length ≤ 48) (hd : st + 8 ≤ q ∨ q + 114 ≤ st) : WP (b_X1_remember_32 q st h) (fun h' => HISC h' cl q (l ++ [T]) ∧ OFF q 114 h h') := by
  obtain ⟨o, G, e0, e1, e2, e3, e4, e5, e6⟩ := e
  unfold b_X1_remember_32
  rw [show (14 : Int32) = zI (14 : Nat) by decide, zl1]
  refine wb (gR_e e0 rfl) ?_
  refine wb (gI_e e0 rfl) ?_
  refine wb (gI_e e0 rfl) ?_
  rw [zI_add, show (o : Int) + (l.length : Int) = ((o + l.length : Nat) : Int) by omega, zI_jrem (by omega) (by omega)]
  refine wb (aR_e e1 (by omega) (e2 _ (by omega))) ?_
  rw [Int.toNat_natCast]
  obtain ⟨S0, hS0⟩ := e5 ((o + l.length) % 14) (by omega)
  refine wpb (X3_become_is hS0 k (by omega) hT) ?_
  rintro h1 ⟨s1, g1⟩
  have e0' := (g1 q (by omega)).trans e0
  have e1' := (g1 (q + 1) (by omega)).trans e1
  refine wb (gI_e e0' rfl) ?_
  rw [zI_add]
  refine wb (pI_e2 (fs2 := [.ref (q + 1), .int (zI o), .int (zI (l.length + 1))]) e0' (show 2 < 3 by omega) rfl) ?_
  have go : OFF q 1 h1 (hup h1 q (.inr (1, [.ref (q + 1), .int (zI o), .int (zI (l.length + 1))]))) := OFF_up (OFF_refl _ _ _) (by omega)
  have hla : (l ++ [T]).length = l.length + 1 := by
    rw [List.length_append, List.length_singleton]
  refine wr ⟨⟨o, G, (hup_same _ _ _).trans ?_, (hup_ne _ _ (by omega)).trans e1', e2, e3, by omega, fun i hi => ?_, fun i hi => ?_⟩, OFF_up (OFF_wide g1 (by omega)) (by omega)⟩
  · rw [hla]
    rfl
  · by_cases c : i = (o + l.length) % 14
    · subst c
      exact ⟨T, STO_off s1 go (by omega)⟩
    · obtain ⟨S, hS⟩ := e5 i hi
      exact ⟨S, STO_off (STO_off hS g1 (by omega)) go (by omega)⟩
  · rw [hla] at hi
    by_cases c : i = l.length
    · subst c
      rw [List.getElem_append_right (Nat.le_refl _)]
      simp only [List.getElem_singleton]
      exact STO_off s1 go (by omega)
    · rw [List.getElem_append_left (by omega)]
      exact STO_off (STO_off (e6 i (by omega)) g1 (by omega)) go (by omega)
theorem X1_remember_is {h : HP} {cl q st cap dl : Nat} {T : SG} {l : List SG} (e : HISC h cl q l) (k : STO h dl st cap T) (hT : T.1.length ≤ 48) (hd : st + 8 ≤ q ∨ q + 114 ≤ st) : WP (f_X1_remember h q st) (fun h' => HISC h' cl q (push l T) ∧ OFF q 114 h h') := by
  have hl : l.length ≤ 14 := by
    obtain ⟨o, G, e0, e1, e2, e3, e4, r⟩ := e
    exact e4
  unfold f_X1_remember b_X1_remember_0 push
  by_cases c : l.length = 14
  · obtain ⟨o, G, e0, e1, e2, e3, e4, e5, e6⟩ := e
    rw [show (14 : Int32) = zI (14 : Nat) by decide, zl1, if_pos c]
    refine wb (kO_e e0) ?_
    refine wb (gI_e e0 rfl) ?_
    refine wt ((zI_inj (by omega)).mpr (by omega)) ?_
    refine wb (gI_e e0 rfl) ?_
    rw [zI_add, show (o : Int) + 1 = ((o + 1 : Nat) : Int) by omega, zI_jrem (by omega) (by omega)]
    refine wb (pI_e2 (fs2 := [.ref (q + 1), .int (zI ((o + 1) % 14 : Nat)), .int (zI l.length)]) e0 (show 1 < 3 by omega) rfl) ?_
    refine wb (gI_e (hup_same _ _ _) rfl) ?_
    rw [zI_sub]
    refine wb (pI_e2 (fs2 := [.ref (q + 1), .int (zI ((o + 1) % 14 : Nat)), .int (zI ((l.length : Int) - 1))]) (hup_same _ _ _) (show 2 < 3 by omega) rfl) ?_
    rw [hup_hup]
    have go : OFF q 1 h (hup h q (.inr (1, [.ref (q + 1), .int (zI ((o + 1) % 14 : Nat)), .int (zI ((l.length : Int) - 1))]))) := OFF_up (OFF_refl _ _ _) (by omega)
    have hlt : l.tail.length = l.length - 1 := List.length_tail
    have e' : HISC (hup h q (.inr (1, [.ref (q + 1), .int (zI ((o + 1) % 14 : Nat)), .int (zI ((l.length : Int) - 1))]))) cl q l.tail := by
      refine ⟨(o + 1) % 14, G, (hup_same _ _ _).trans ?_, (hup_ne _ _ (by omega)).trans e1, e2, by omega, by omega, fun i hi => ?_, fun i hi => ?_⟩
      · rw [hlt, show ((l.length - 1 : Nat) : Int) = (l.length : Int) - 1 by omega]
      · obtain ⟨S, hS⟩ := e5 i hi
        exact ⟨S, STO_off hS go (by omega)⟩
      · rw [List.getElem_tail]
        have := STO_off (e6 (i + 1) (by omega)) go (by omega)
        rw [show ((o + 1) % 14 + i) % 14 = (o + (i + 1)) % 14 by omega]
        exact this
    refine wm (rem32 e' (by omega) (STO_off k go (by omega)) hT hd) ?_
    rintro h' ⟨r1, r2⟩
    exact ⟨r1, OFF_trans (OFF_wide go (by omega)) r2⟩
  · have hw := rem32 e (by omega) k hT hd
    obtain ⟨o, G, e0, e1, e2, e3, e4, e5, e6⟩ := e
    rw [if_neg c]
    refine wb (kO_e e0) ?_
    refine wb (gI_e e0 rfl) ?_
    rw [show (14 : Int32) = zI 14 by decide]
    refine wf (fun d => c (by have := (zI_inj (by omega)).mp d; omega)) ?_
    exact hw
