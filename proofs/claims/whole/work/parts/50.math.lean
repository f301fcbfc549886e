/-! whether a place has a write for a key -/
theorem isIn_loop {h : HP} {m : Nat} {S : SG} (e : REF h m S) (hw : WSOK S.1) {k x : Int} (hk : -1000000 < k ∧ k < 1000000) (hx : -1 ≤ x ∧ x < S.2.1.length) {en : Nat} (he : eOf S x = en) (hl : en ≤ S.1.length) : ∀ (r n : Nat) (b : Bool) (j : Nat), r < n → j + r = en → b_X8_isIn_9 h m (zI x) (zI k) n (tB (b = true)) (zI j) = some (tB (b = true ∨ ∃ q : Nat, q < r ∧ (wat S.1 (j + q : Nat)).2.1 ≤ k ∧ k ≤ (wat S.1 (j + q : Nat)).2.2.1)) := by
  have hb := REF_b e
  have h1 := X8_begin_is e (r := x) (by omega)
  have h2 := X8_manyIn_is e hx
  intro r
  induction r with
  | zero =>
    intro n b j hn hj
    obtain ⟨n, rfl⟩ : ∃ k, n = k + 1 := ⟨n - 1, by omega⟩
    unfold b_X8_isIn_9 c_X8_isIn_9
    rw [h1, Option.bind_some, h2, Option.bind_some, zI_add, show sOf S x + (eOf S x - sOf S x) = en by omega, if_pos ((zI_le (by omega)).mpr (by omega)), bz_tB]
    refine congrArg some (tB_c ⟨Or.inl, ?_⟩)
    rintro (hh | ⟨q, hq, _⟩)
    · exact hh
    · exact absurd hq (Nat.not_lt_zero _)
  | succ r ih =>
    intro n b j hn hj
    obtain ⟨n, rfl⟩ : ∃ k, n = k + 1 := ⟨n - 1, by omega⟩
    have h3 := ih n true (j + 1) (by omega) (by omega)
    have h4 := ih n false (j + 1) (by omega) (by omega)
    rw [cast1, tB_1 rfl] at h3
    rw [cast1, tB_0 (by decide)] at h4
    unfold b_X8_isIn_9 c_X8_isIn_9
    rw [h1, Option.bind_some, h2, Option.bind_some, zI_add, show sOf S x + (eOf S x - sOf S x) = en by omega, if_neg (fun d => absurd ((zI_le (by omega)).mp d) (by omega)), X8_concerns_is e hw (by omega) (by omega), Option.bind_some]
    rw [show zI (j : Int) + 1 = zI ((j : Int) + 1) by rw [zl1, zI_add], h3, h4]
    have hq : ∀ P : Prop, (P ∨ ∃ q : Nat, q < r + 1 ∧ (wat S.1 (j + q : Nat)).2.1 ≤ k ∧ k ≤ (wat S.1 (j + q : Nat)).2.2.1) ↔ (P ∨ ((wat S.1 j).2.1 ≤ k ∧ k ≤ (wat S.1 j).2.2.1) ∨ ∃ q : Nat, q < r ∧ (wat S.1 (j + 1 + q : Nat)).2.1 ≤ k ∧ k ≤ (wat S.1 (j + 1 + q : Nat)).2.2.1) := by
      intro P
      constructor
      · rintro (hh | ⟨q, a1, a2⟩)
        · exact Or.inl hh
        · cases q with
          | zero => exact Or.inr (Or.inl a2)
          | succ q =>
            rw [show j + (q + 1) = j + 1 + q by omega] at a2
            exact Or.inr (Or.inr ⟨q, by omega, a2⟩)
      · rintro (hh | hh | ⟨q, a1, a2⟩)
        · exact Or.inl hh
        · exact Or.inr ⟨0, by omega, hh⟩
        · rw [show j + 1 + q = j + (q + 1) by omega] at a2
          exact Or.inr ⟨q + 1, by omega, a2⟩
    cases b with
    | true =>
      rw [tB_1 rfl, if_neg (by decide)]
      refine congrArg some ((tB_1 (Or.inl rfl)).trans (tB_1 (Or.inl rfl)).symm)
    | false =>
      rw [tB_0 (by decide), if_pos rfl]
      by_cases c : (wat S.1 j).2.1 ≤ k ∧ k ≤ (wat S.1 j).2.2.1
      · rw [tB_1 c, if_neg (by decide)]
        exact congrArg some ((tB_1 (Or.inl rfl)).trans (tB_1 ((hq _).mpr (Or.inr (Or.inl c)))).symm)
      · rw [tB_0 c, if_pos rfl]
        refine congrArg some (tB_c ?_)
        rw [hq]
        constructor
        · rintro (hh | hh)
          · exact Or.inl hh
          · exact Or.inr (Or.inr hh)
        · rintro (hh | hh | hh)
          · exact Or.inl hh
          · exact absurd hh c
          · exact Or.inr hh
theorem X8_isIn_is {h : HP} {m : Nat} {S : SG} (e : REF h m S) (hw : WSOK S.1) {k x : Int} (hk : -1000000 < k ∧ k < 1000000) (hx : -1 ≤ x ∧ x < S.2.1.length) {p r : Nat} (hs : sOf S x = p) (he : eOf S x = (p + r : Nat)) (hl : p + r ≤ S.1.length) : f_X8_isIn h m (zI x) (zI k) = some (tB (∃ q : Nat, q < r ∧ (wat S.1 (p + q : Nat)).2.1 ≤ k ∧ k ≤ (wat S.1 (p + q : Nat)).2.2.1)) := by
  have hb := REF_b e
  have h1 := isIn_loop e hw hk hx he hl r FU false p (by unfold FU; omega) rfl
  unfold f_X8_isIn b_X8_isIn_0
  rw [hb.2, Option.bind_some, X8_begin_is e (by omega), Option.bind_some, hs, zl0]
  rw [tB_0 (by decide), zl0] at h1
  rw [h1]
  refine congrArg some (tB_c ⟨?_, Or.inr⟩)
  rintro (hh | hh)
  · exact absurd hh (by decide)
  · exact hh
