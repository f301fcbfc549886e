theorem X3_tryPut_is {h : HP} {cl a cap : Nat} {S : SG} (e : STO h cl a cap S) (hc : 48 ≤ cap) (h48 : S.1.length ≤ 48) {k v : Int} (hk : -2147483648 ≤ k ∧ k < 2147483648) (hv : -2147483648 ≤ v ∧ v < 2147483648) : WP (f_X3_tryPut h a (zI k) (zI v)) (TRY cl a cap S h (cPut S k v)) := by
  have h1 := X3_isFull_is e
  have hk0 : kO 3 h a = some () := by
    obtain ⟨fe, fy, e0, -⟩ := e
    exact kO_e e0
  have no : ∀ o : Option SG, o = none → WP (some ((0 : Int32), h)) (TRY cl a cap S h o) := fun o ho => by
    subst ho
    exact wr ⟨(tB_0 (by decide)).symm, e, OFF_refl _ _ _⟩
  have no2 : putF S k v ≠ 0 → cPut S k v = none := fun d => by
    unfold cPut
    rw [if_neg d]
  unfold f_X3_tryPut b_X3_tryPut_0
  refine wb hk0 ?_
  refine wb (X7_isKey_is h hk) ?_
  by_cases c1 : 0 ≤ k ∧ k ≤ 99
  · have n1 : ¬ ¬ (0 ≤ k ∧ k ≤ 99) := fun d => d c1
    rw [tB_1 c1]
    refine wf (by decide) ?_
    refine wb (X7_isValue_is h hv) ?_
    by_cases c2 : 1 ≤ v ∧ v ≤ 999
    · have n2 : ¬ ¬ (1 ≤ v ∧ v ≤ 999) := fun d => d c2
      rw [tB_1 c2]
      refine wf (by decide) ?_
      refine wb h1 ?_
      by_cases c3 : 48 ≤ S.1.length
      · rw [tB_1 c3]
        refine wf (by decide) (no _ (no2 ?_))
        unfold putF
        rw [if_neg n1, if_neg n2, if_pos (show S.1.length = 48 by omega)]
        decide
      · rw [tB_0 c3]
        refine wt rfl ?_
        refine wpb (X3_addWrite_is e k k v (by omega)) ?_
        rintro h' ⟨q1, q2⟩
        have hp : cPut S k v = some (wadd S k k v) := by
          unfold cPut putF
          rw [if_neg n1, if_neg n2, if_neg (show ¬ S.1.length = 48 by omega), if_pos rfl]
        rw [hp]
        exact wr ⟨(tB_1 rfl).symm, q1, q2⟩
    · rw [tB_0 c2]
      refine wt rfl (no _ (no2 ?_))
      unfold putF
      rw [if_neg n1, if_pos c2]
      decide
  · rw [tB_0 c1]
    refine wt rfl (no _ (no2 ?_))
    unfold putF
    rw [if_pos c1]
    decide
theorem X3_tryBury_is {h : HP} {cl a cap : Nat} {S : SG} (e : STO h cl a cap S) (hc : 48 ≤ cap) (h48 : S.1.length ≤ 48) {p q : Int} (hk : -2147483648 ≤ p ∧ p < 2147483648) (hv : -2147483648 ≤ q ∧ q < 2147483648) : WP (f_X3_tryBury h a (zI p) (zI q)) (TRY cl a cap S h (cBury S p q)) := by
  have h1 := X3_isFull_is e
  have hk0 : kO 3 h a = some () := by
    obtain ⟨fe, fy, e0, -⟩ := e
    exact kO_e e0
  have no : ∀ o : Option SG, o = none → WP (some ((0 : Int32), h)) (TRY cl a cap S h o) := fun o ho => by
    subst ho
    exact wr ⟨(tB_0 (by decide)).symm, e, OFF_refl _ _ _⟩
  have no2 : buryF S p q ≠ 0 → cBury S p q = none := fun d => by
    unfold cBury
    rw [if_neg d]
  unfold f_X3_tryBury b_X3_tryBury_0
  refine wb hk0 ?_
  refine wb (X7_isKey_is h hk) ?_
  by_cases c1 : 0 ≤ p ∧ p ≤ 99
  · rw [tB_1 c1]
    refine wf (by decide) ?_
    refine wb (X7_isKey_is h hv) ?_
    by_cases c2 : 0 ≤ q ∧ q ≤ 99
    · have c0 : ¬ (¬ (0 ≤ p ∧ p ≤ 99) ∨ ¬ (0 ≤ q ∧ q ≤ 99)) := by omega
      rw [tB_1 c2]
      refine wf (by decide) ?_
      by_cases c4 : q < p
      · refine wt ((zI_lt (by omega)).mpr c4) (no _ (no2 ?_))
        unfold buryF
        rw [if_neg c0, if_pos c4]
        decide
      · refine wf (fun d => c4 ((zI_lt (by omega)).mp d)) ?_
        refine wb h1 ?_
        by_cases c3 : 48 ≤ S.1.length
        · rw [tB_1 c3]
          refine wf (by decide) (no _ (no2 ?_))
          unfold buryF
          rw [if_neg c0, if_neg c4, if_pos (show S.1.length = 48 by omega)]
          decide
        · rw [tB_0 c3]
          refine wt rfl ?_
          rw [zl0]
          refine wpb (X3_addWrite_is e p q 0 (by omega)) ?_
          rintro h' ⟨q1, q2⟩
          have hp : cBury S p q = some (wadd S p q 0) := by
            unfold cBury buryF
            rw [if_neg c0, if_neg c4, if_neg (show ¬ S.1.length = 48 by omega), if_pos rfl]
          rw [hp]
          exact wr ⟨(tB_1 rfl).symm, q1, q2⟩
    · rw [tB_0 c2]
      refine wt rfl (no _ (no2 ?_))
      unfold buryF
      rw [if_pos (Or.inr c2)]
      decide
  · rw [tB_0 c1]
    refine wt rfl (no _ (no2 ?_))
    unfold buryF
    rw [if_pos (Or.inl c1)]
    decide
