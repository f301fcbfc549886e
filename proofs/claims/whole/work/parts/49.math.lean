/-! the text of the class: its signs -/
def TXT (h : HP) (t : Nat) (l : List Int) : Prop := ∃ f, h t = some (.inr (4, [.ref (t + 1), .int (zI l.length)])) ∧ ARR h (t + 1) 120 f ∧ CLU f l ∧ l.length ≤ 120 ∧ ∀ c ∈ l, 0 ≤ c ∧ c ≤ 255
/-- the sign at a place; -1 where there is none -/
def sgn (l : List Int) (j : Int) : Int := if 0 ≤ j ∧ j < l.length then iat l j else -1
theorem TXT_off {h h' : HP} {t a' n' : Nat} {l : List Int} (e : TXT h t l) (k : OFF a' n' h h') (d : t + 2 ≤ a' ∨ a' + n' ≤ t) : TXT h' t l := by
  obtain ⟨f, e0, e1, r⟩ := e
  exact ⟨f, (k _ (by omega)).trans e0, (k _ (by omega)).trans e1, r⟩
theorem TXT_b {h : HP} {t : Nat} {l : List Int} (e : TXT h t l) : l.length ≤ 120 ∧ ∀ j, -1 ≤ sgn l j ∧ sgn l j ≤ 255 := by
  obtain ⟨f, e0, e1, e2, e3, e4⟩ := e
  refine ⟨e3, fun j => ?_⟩
  unfold sgn
  split
  · rename_i c
    have := e4 _ (iat_mem c)
    omega
  · omega
theorem X4_length_is {h : HP} {t : Nat} {l : List Int} (e : TXT h t l) : f_X4_length h t = some (zI l.length) := by
  obtain ⟨f, e0, e1, e2, e3, e4⟩ := e
  unfold f_X4_length b_X4_length_0
  rw [kO_e e0, Option.bind_some, gI_e e0 rfl]
  rfl
theorem X4_isFull_is {h : HP} {t : Nat} {l : List Int} (e : TXT h t l) : f_X4_isFull h t = some (tB (l.length = 120)) := by
  obtain ⟨f, e0, e1, e2, e3, e4⟩ := e
  unfold f_X4_isFull b_X4_isFull_0
  rw [kO_e e0, Option.bind_some, gI_e e0 rfl, Option.bind_some, gR_e e0 rfl, Option.bind_some, aN_e e1, Option.bind_some]
  by_cases c : (l.length : Int) < (120 : Nat)
  · rw [if_pos ((zI_lt (by omega)).mpr c), tB_0 (by omega)]
  · rw [if_neg (fun d => c ((zI_lt (by omega)).mp d)), tB_1 (by omega)]
theorem X4_empty_is {h : HP} {t : Nat} {l : List Int} (e : TXT h t l) : WP (f_X4_empty h t) (fun h' => TXT h' t [] ∧ OFF t 2 h h') := by
  obtain ⟨f, e0, e1, e2, e3, e4⟩ := e
  unfold f_X4_empty b_X4_empty_0
  rw [zl0]
  refine wb (kO_e e0) ?_
  refine wb (pI_e2 (fs2 := [.ref (t + 1), .int (zI 0)]) e0 (show 1 < 2 by omega) rfl) ?_
  exact wr ⟨⟨f, hup_same _ _ _, ARR_ne e1 (by omega), fun j hj => absurd hj (Nat.not_lt_zero _), Nat.zero_le _, fun c hc => absurd hc List.not_mem_nil⟩, OFF_up (OFF_refl _ _ _) (by omega)⟩
theorem X4_addSign_is {h : HP} {t : Nat} {l : List Int} (e : TXT h t l) (hl : l.length < 120) {c : Int} (hc : 0 ≤ c ∧ c ≤ 255) : WP (f_X4_addSign h t (zI c)) (fun h' => TXT h' t (l ++ [c]) ∧ OFF t 2 h h') := by
  obtain ⟨f, e0, e1, e2, e3, e4⟩ := e
  unfold f_X4_addSign b_X4_addSign_0
  rw [zl1]
  refine wb (kO_e e0) ?_
  refine wb (gI_e e0 rfl) ?_
  refine wb (gR_e e0 rfl) ?_
  refine wb (aN_e e1) ?_
  refine wf (fun d => absurd ((zI_le (by omega)).mp d) (by omega)) ?_
  refine wb (gR_e e0 rfl) ?_
  refine wb (gI_e e0 rfl) ?_
  refine wb (wI_e e1 (by omega)) ?_
  rw [Int.toNat_natCast]
  have e0' := (hup_ne h (e := .inl (0, 120, .inl (upd f l.length (zI c)))) (show t ≠ t + 1 by omega)).trans e0
  refine wb (gI_e e0' rfl) ?_
  rw [zI_add]
  refine wb (pI_e2 (fs2 := [.ref (t + 1), .int (zI (l.length + 1))]) e0' (show 1 < 2 by omega) rfl) ?_
  refine wr ⟨⟨_, (hup_same _ _ _).trans ?_, ARR_ne (ARR_eq _ _ _ _) (by omega), CLU_app e2 c, ?_, fun x hx => ?_⟩, OFF_up (OFF_up (OFF_refl _ _ _) (by omega)) (by omega)⟩
  · rw [List.length_append, List.length_singleton]
    rfl
  · rw [List.length_append, List.length_singleton]
    omega
  · rcases List.mem_append.mp hx with h1 | h1
    · exact e4 x h1
    · rw [List.mem_singleton.mp h1]
      exact hc
theorem X4_signAt_is {h : HP} {t : Nat} {l : List Int} (e : TXT h t l) {j : Int} (hj : -1000000 < j ∧ j < 1000000) : f_X4_signAt h t (zI j) = some (zI (sgn l j)) := by
  obtain ⟨f, e0, e1, e2, e3, e4⟩ := e
  unfold f_X4_signAt b_X4_signAt_0 sgn
  rw [zl0, zl1, zI_neg, kO_e e0, Option.bind_some]
  by_cases c1 : j < 0
  · rw [if_pos ((zI_lt (by omega)).mpr c1), if_neg (by omega)]
  · rw [if_neg (fun d => c1 ((zI_lt (by omega)).mp d)), gI_e e0 rfl, Option.bind_some]
    by_cases c2 : (l.length : Int) ≤ j
    · rw [if_pos ((zI_le (by omega)).mpr c2), if_neg (by omega)]
    · rw [if_neg (fun d => c2 ((zI_le (by omega)).mp d)), gR_e e0 rfl, Option.bind_some, aI_e e1 (by omega), Option.bind_some, CLU_at e2 (by omega), if_pos (by omega)]
theorem X4_isDigit_is {h : HP} {t : Nat} {l : List Int} (e : TXT h t l) {j : Int} (hj : -1000000 < j ∧ j < 1000000) : f_X4_isDigit h t (zI j) = some (tB (48 ≤ sgn l j ∧ sgn l j ≤ 57)) := by
  have hb := (TXT_b e).2 j
  have hs := X4_signAt_is e hj
  obtain ⟨f, e0, -⟩ := e
  unfold f_X4_isDigit b_X4_isDigit_0
  rw [kO_e e0, Option.bind_some, hs, Option.bind_some, Option.bind_some, show (48 : Int32) = zI 48 by decide, show (57 : Int32) = zI 57 by decide]
  by_cases c1 : sgn l j < 48
  · rw [if_pos ((zI_lt (by omega)).mpr c1), tB_0 (by omega)]
  · rw [if_neg (fun d => c1 ((zI_lt (by omega)).mp d))]
    by_cases c2 : 57 < sgn l j
    · rw [if_pos ((zI_lt (by omega)).mpr c2), tB_0 (by omega)]
    · rw [if_neg (fun d => c2 ((zI_lt (by omega)).mp d)), tB_1 (by omega)]
/-- the decimal number of the signs, n from place j on, behind another one -/
def dgs (l : List Int) (p : Int) (acc : Int) (j : Nat) : Nat → Int
  | 0 => acc
  | n + 1 => dgs l p (acc * 10 + (sgn l (p + j) - 48)) (j + 1) n
theorem digitsAt_loop {h : HP} {t : Nat} {l : List Int} (e : TXT h t l) {p : Int} (hp : -1000 < p ∧ p < 1000) {w : Nat} (hw : w < 100) : ∀ (r n : Nat) (acc : Int) (j : Nat), r < n → j + r = w → b_X4_digitsAt_5 h t (zI p) (zI w) n (zI acc) (zI j) = some (zI (dgs l p acc j r)) := by
  intro r
  induction r with
  | zero =>
    intro n acc j hn hj
    obtain ⟨n, rfl⟩ : ∃ k, n = k + 1 := ⟨n - 1, by omega⟩
    unfold b_X4_digitsAt_5 c_X4_digitsAt_5
    rw [if_pos ((zI_le (by omega)).mpr (by omega))]
    rfl
  | succ r ih =>
    intro n acc j hn hj
    obtain ⟨n, rfl⟩ : ∃ k, n = k + 1 := ⟨n - 1, by omega⟩
    unfold b_X4_digitsAt_5 c_X4_digitsAt_5
    rw [if_neg (fun d => absurd ((zI_le (by omega)).mp d) (by omega)), zI_add, X4_signAt_is e (by omega), Option.bind_some, show (10 : Int32) = zI 10 by decide, show (48 : Int32) = zI 48 by decide, zl1, zI_mul, zI_sub, zI_add, zI_add, ← cast1, ih n _ (j + 1) (by omega) (by omega)]
    rfl
theorem X4_digitsAt_is {h : HP} {t : Nat} {l : List Int} (e : TXT h t l) {p : Int} (hp : -1000 < p ∧ p < 1000) {w : Nat} (hw : w < 100) : f_X4_digitsAt h t (zI p) (zI w) = some (zI (dgs l p 0 0 w)) := by
  have h1 := digitsAt_loop e hp hw w FU 0 0 (by unfold FU; omega) (by omega)
  obtain ⟨f, e0, -⟩ := e
  unfold f_X4_digitsAt b_X4_digitsAt_0
  rw [kO_e e0, Option.bind_some, zl0]
  exact h1
