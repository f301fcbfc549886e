/-! commands on a state: none where they cannot be done -/
def wadd (S : SG) (p q v : Int) : SG := (S.1 ++ [(S.2.2.2.1 + 1, p, q, v)], S.2.1, S.2.2.1, S.2.2.2.1 + 1, S.2.2.2.2)
def cPut (S : SG) (k v : Int) : Option SG := if putF S k v = 0 then some (wadd S k k v) else none
def cBury (S : SG) (p q : Int) : Option SG := if buryF S p q = 0 then some (wadd S p q 0) else none
def cOpen (S : SG) : Option SG := if S.2.2.1.length < 2 then some (S.1, S.2.1, S.2.2.1 ++ [S.2.2.2.1], S.2.2.2.1, S.2.2.2.2) else none
def cClose (S : SG) (e : Int) : Option SG := if 0 ≤ e ∧ e < S.2.2.1.length then some (S.1, S.2.1, S.2.2.1.eraseIdx e.toNat, S.2.2.2.1, S.2.2.2.2) else none
/-- what a try gives: 1 and the new state, or 0 and the old one -/
def TRY (cl a cap : Nat) (S : SG) (h : HP) (o : Option SG) (r : Int32 × HP) : Prop := r.1 = tB (o.isSome = true) ∧ STO r.2 cl a cap (o.getD S) ∧ OFF a 8 h r.2
theorem X7_isKey_is (h : HP) {x : Int} (hx : -2147483648 ≤ x ∧ x < 2147483648) : f_X7_isKey h (zI x) = some (tB (0 ≤ x ∧ x ≤ 99)) := by
  unfold f_X7_isKey b_X7_isKey_0
  rw [zl0, show (100 : Int32) = zI 100 by decide]
  by_cases c1 : x < 0
  · rw [if_pos ((zI_lt (by omega)).mpr c1), tB_0 (by omega)]
    rfl
  · rw [if_neg (fun d => c1 ((zI_lt (by omega)).mp d))]
    by_cases c2 : 100 ≤ x
    · rw [if_pos ((zI_le (by omega)).mpr c2), tB_0 (by omega)]
      rfl
    · rw [if_neg (fun d => c2 ((zI_le (by omega)).mp d)), tB_1 (by omega)]
theorem X7_isValue_is (h : HP) {x : Int} (hx : -2147483648 ≤ x ∧ x < 2147483648) : f_X7_isValue h (zI x) = some (tB (1 ≤ x ∧ x ≤ 999)) := by
  unfold f_X7_isValue b_X7_isValue_0
  rw [show (if zI x < 1 then some (0 : Int32) else if 999 < zI x then some 0 else some 1) = (if zI x < zI 1 then some (0 : Int32) else if zI 999 < zI x then some 0 else some 1) from rfl]
  by_cases c1 : x < 1
  · rw [if_pos ((zI_lt (by omega)).mpr c1), tB_0 (by omega)]
  · rw [if_neg (fun d => c1 ((zI_lt (by omega)).mp d))]
    by_cases c2 : 999 < x
    · rw [if_pos ((zI_lt (by omega)).mpr c2), tB_0 (by omega)]
    · rw [if_neg (fun d => c2 ((zI_lt (by omega)).mp d)), tB_1 (by omega)]
theorem X3_tryOpen_is {h : HP} {cl a cap : Nat} {S : SG} (e : STO h cl a cap S) : WP (f_X3_tryOpen h a) (TRY cl a cap S h (cOpen S)) := by
  have h1 := X3_canOpen_is e
  have hk : kO 3 h a = some () := by
    obtain ⟨fe, fy, e0, -⟩ := e
    exact kO_e e0
  unfold f_X3_tryOpen b_X3_tryOpen_0 cOpen
  refine wb hk ?_
  refine wb h1 ?_
  by_cases c : S.2.2.1.length < 2
  · rw [tB_1 c, if_pos c]
    refine wf (by decide) ?_
    refine wpb (X3_addEye_is e c) ?_
    rintro h' ⟨q1, q2⟩
    exact wr ⟨(tB_1 rfl).symm, q1, q2⟩
  · rw [tB_0 c, if_neg c]
    refine wt rfl ?_
    exact wr ⟨(tB_0 (by decide)).symm, e, OFF_refl _ _ _⟩
theorem X3_tryClose_is {h : HP} {cl a cap : Nat} {S : SG} (e : STO h cl a cap S) {i : Int} (hi : -2147483648 ≤ i ∧ i < 2147483648) : WP (f_X3_tryClose h a (zI i)) (TRY cl a cap S h (cClose S i)) := by
  have h1 := X3_isEye_is e hi
  have hk : kO 3 h a = some () := by
    obtain ⟨fe, fy, e0, -⟩ := e
    exact kO_e e0
  unfold f_X3_tryClose b_X3_tryClose_0 cClose
  refine wb hk ?_
  refine wb h1 ?_
  by_cases c : 0 ≤ i ∧ i < S.2.2.1.length
  · rw [tB_1 c, if_pos c]
    refine wf (by decide) ?_
    refine wpb (X3_dropEye_is e c) ?_
    rintro h' ⟨q1, q2⟩
    exact wr ⟨(tB_1 rfl).symm, q1, q2⟩
  · rw [tB_0 c, if_neg c]
    refine wt rfl ?_
    exact wr ⟨(tB_0 (by decide)).symm, e, OFF_refl _ _ _⟩
