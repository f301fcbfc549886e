theorem X1_takeBack_is {h : HP} {cl q st cap dl : Nat} {S : SG} {l : List SG} (e : HISC h cl q l) (hl : 0 < l.length) (k : STO h dl st cap S) (hT : l[l.length - 1].1.length ≤ cap) (hd : st + 8 ≤ q ∨ q + 114 ≤ st) : WP (f_X1_takeBack h q st) (fun h' => HISC h' cl q l.dropLast ∧ STO h' dl st cap l[l.length - 1] ∧ ∀ b, b ≠ q → (b < st ∨ st + 8 ≤ b) → h' b = h b) := by
  obtain ⟨o, G, e0, e1, e2, e3, e4, e5, e6⟩ := e
  unfold f_X1_takeBack b_X1_takeBack_0
  rw [show (14 : Int32) = zI (14 : Nat) by decide, zl1, zl0]
  refine wb (kO_e e0) ?_
  refine wb (gI_e e0 rfl) ?_
  refine wf (fun d => absurd ((zI_le (by omega)).mp d) (by omega)) ?_
  refine wb (gI_e e0 rfl) ?_
  rw [zI_sub]
  refine wb (pI_e2 (fs2 := [.ref (q + 1), .int (zI o), .int (zI ((l.length : Int) - 1))]) e0 (show 2 < 3 by omega) rfl) ?_
  have go : OFF q 1 h (hup h q (.inr (1, [.ref (q + 1), .int (zI o), .int (zI ((l.length : Int) - 1))]))) := OFF_up (OFF_refl _ _ _) (by omega)
  have e0' := hup_same h q (.inr (1, [.ref (q + 1), .int (zI o), .int (zI ((l.length : Int) - 1))]))
  have e1' := (go (q + 1) (by omega)).trans e1
  have k' := STO_off k go (by omega)
  have e5' : ∀ i : Nat, i < 14 → ∃ S, STO (hup h q (.inr (1, [.ref (q + 1), .int (zI o), .int (zI ((l.length : Int) - 1))]))) cl (q + 2 + 8 * i) 48 S := fun i hi => by
    obtain ⟨S, hS⟩ := e5 i hi
    exact ⟨S, STO_off hS go (by omega)⟩
  have e6' : ∀ i : Nat, ∀ hi : i < l.length, STO (hup h q (.inr (1, [.ref (q + 1), .int (zI o), .int (zI ((l.length : Int) - 1))]))) cl (q + 2 + 8 * ((o + i) % 14)) 48 l[i] := fun i hi => STO_off (e6 i hi) go (by omega)
  generalize hup h q _ = h1 at *
  refine wb (gR_e e0' rfl) ?_
  refine wb (gI_e e0' rfl) ?_
  refine wb (gI_e e0' rfl) ?_
  rw [zI_add, show (o : Int) + ((l.length : Int) - 1) = ((o + (l.length - 1) : Nat) : Int) by omega, zI_jrem (by omega) (by omega)]
  refine wb (aR_e e1' (by omega) (e2 _ (by omega))) ?_
  rw [Int.toNat_natCast]
  refine wpb (X3_become_is k' (e6' (l.length - 1) (by omega)) (by omega) hT) ?_
  rintro h2 ⟨s1, g1⟩
  have hld : l.dropLast.length = l.length - 1 := List.length_dropLast
  refine wr ⟨⟨o, G, ((g1 q (by omega)).trans e0').trans ?_, (g1 (q + 1) (by omega)).trans e1', e2, e3, by omega, fun i hi => ?_, fun i hi => ?_⟩, s1, fun b hb1 hb2 => (g1 b hb2).trans (go b (by omega))⟩
  · rw [hld, show ((l.length - 1 : Nat) : Int) = (l.length : Int) - 1 by omega]
  · obtain ⟨S, hS⟩ := e5' i hi
    exact ⟨S, STO_off hS g1 (by omega)⟩
  · rw [List.getElem_dropLast]
    exact STO_off (e6' i (by omega)) g1 (by omega)
