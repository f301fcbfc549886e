/-! the reference: its object, its row of numbers -/
def mrow (m : Nat) (v : Nat → Int32) : List Value := [.int (v 0), .ref (m + 1), .ref (m + 2), .ref (m + 3), .int (v 4), .ref (m + 4), .ref (m + 5), .ref (m + 6), .int (v 8), .ref (m + 7), .int (v 10), .ref (m + 8), .int (v 12), .int (v 13), .int (v 14), .int (v 15), .int (v 16)]
def MOB (h : HP) (m : Nat) (v : Nat → Int32) : Prop := h m = some (.inr (8, mrow m v))
def RW (f : Nat → Int32) (S : SG) : Prop := (S.2.1.length ≤ 5 ∧ S.1.length ≤ 48 ∧ S.2.2.1.length ≤ 2) ∧ f 0 = zI S.2.1.length ∧ (∀ i : Nat, i < S.2.1.length → f (1 + i) = zI (eOf S i - sOf S i)) ∧ f 6 = zI (eOf S (-1) - sOf S (-1)) ∧ f 7 = zI S.2.2.1.length ∧ (∀ i : Nat, i < S.2.2.1.length → f (8 + i) = zI (iat S.2.2.1 i)) ∧ f 10 = zI S.2.2.2.1 ∧ f 11 = zI S.2.2.2.2 ∧ ∀ j : Nat, j < S.1.length → f (12 + 4 * j) = zI (wat S.1 j).1 ∧ f (13 + 4 * j) = zI (wat S.1 j).2.1 ∧ f (14 + 4 * j) = zI (wat S.1 j).2.2.1 ∧ f (15 + 4 * j) = zI (wat S.1 j).2.2.2
/-- the reference holds this state -/
def REF (h : HP) (m : Nat) (S : SG) : Prop := ∃ v f, MOB h m v ∧ ARR h (m + 1) 204 f ∧ RW f S
theorem bz_tB {p : Prop} [Decidable p] : bz (tB p) = some (tB p) := by
  unfold bz tB
  split <;> simp
theorem X8_of_is (h : HP) (w k : Int) : f_X8_of h (zI w) (zI k) = some (zI (12 + 4 * w + k)) := by
  unfold f_X8_of b_X8_of_0
  rw [show (12 : Int32) = zI 12 by decide, show (4 : Int32) = zI 4 by decide, zI_mul, zI_add, zI_add]
theorem X8_in_is (h : HP) {x a b : Int} (hx : -2147483648 ≤ x ∧ x < 2147483648) (ha : -2147483648 ≤ a ∧ a < 2147483648) (hb : -2147483648 ≤ b ∧ b < 2147483648) : f_X8_in h (zI x) (zI a) (zI b) = some (tB (a ≤ x ∧ x ≤ b)) := by
  unfold f_X8_in b_X8_in_0
  by_cases c1 : x < a
  · rw [if_pos ((zI_lt (by omega)).mpr c1), tB_0 (by omega)]
  · rw [if_neg (fun d => c1 ((zI_lt (by omega)).mp d))]
    by_cases c2 : b < x
    · rw [if_pos ((zI_lt (by omega)).mpr c2), tB_0 (by omega)]
    · rw [if_neg (fun d => c2 ((zI_lt (by omega)).mp d)), tB_1 (by omega)]
theorem X8_isKey_is (h : HP) {x : Int} (hx : -2147483648 ≤ x ∧ x < 2147483648) : f_X8_isKey h (zI x) = some (tB (0 ≤ x ∧ x ≤ 99)) := by
  unfold f_X8_isKey b_X8_isKey_0
  rw [zl0, show (99 : Int32) = zI 99 by decide, X8_in_is h hx (by omega) (by omega), Option.bind_some, bz_tB]
theorem X8_isRun_is {h : HP} {m : Nat} {S : SG} (e : REF h m S) {x : Int} (hx : -2147483648 ≤ x ∧ x < 2147483648) : f_X8_isRun h m (zI x) = some (tB (0 ≤ x ∧ x < S.2.1.length)) := by
  obtain ⟨v, f, e0, e1, ⟨b1, b2, b3⟩, q0, q1, q2, q3, q4, q5, q6, q7⟩ := e
  unfold f_X8_isRun b_X8_isRun_0
  have h0 := aI_e e1 (z := 0) (by omega)
  rw [zl0, kO_e e0, Option.bind_some, gR_e e0 rfl, Option.bind_some, h0, Option.bind_some, show f (0 : Int).toNat = _ from q0, zl1, zI_sub, X8_in_is h hx (by omega) (by omega), Option.bind_some, bz_tB]
  exact congrArg some (tB_c (by omega))
theorem X8_isEye_is {h : HP} {m : Nat} {S : SG} (e : REF h m S) {x : Int} (hx : -2147483648 ≤ x ∧ x < 2147483648) : f_X8_isEye h m (zI x) = some (tB (0 ≤ x ∧ x < S.2.2.1.length)) := by
  obtain ⟨v, f, e0, e1, ⟨b1, b2, b3⟩, q0, q1, q2, q3, q4, q5, q6, q7⟩ := e
  unfold f_X8_isEye b_X8_isEye_0
  have h0 := aI_e e1 (z := 7) (by omega)
  rw [zl0, show (7 : Int32) = zI 7 by decide, kO_e e0, Option.bind_some, gR_e e0 rfl, Option.bind_some, h0, Option.bind_some, show f (7 : Int).toNat = _ from q3, zl1, zI_sub, X8_in_is h hx (by omega) (by omega), Option.bind_some, bz_tB]
  exact congrArg some (tB_c (by omega))
theorem X8_isView_is {h : HP} {m : Nat} {S : SG} (e : REF h m S) {x : Int} (hx : -2147483648 ≤ x ∧ x < 2147483648) : f_X8_isView h m (zI x) = some (tB (-1 ≤ x ∧ x < S.2.2.1.length)) := by
  have h1 := X8_isEye_is e hx
  obtain ⟨v, f, e0, e1, ⟨b1, b2, b3⟩, q0, q1, q2, q3, q4, q5, q6, q7⟩ := e
  unfold f_X8_isView b_X8_isView_0
  rw [kO_e e0, Option.bind_some, h1, Option.bind_some, zl1, zI_neg, zl0]
  by_cases c1 : x = -1
  · rw [if_pos ((zI_inj (by omega)).mpr c1), tB_1 (by omega)]
    rfl
  · rw [if_neg (fun d => c1 ((zI_inj (by omega)).mp d))]
    by_cases c2 : 0 ≤ x ∧ x < S.2.2.1.length
    · rw [tB_1 c2, if_neg (by decide), tB_1 (by omega)]
      rfl
    · rw [tB_0 c2, if_pos (by decide), tB_0 (by omega)]
      rfl
theorem begin_loop {h : HP} {m : Nat} {S : SG} (e : REF h m S) {r : Int} (hr : -1 ≤ r ∧ r < 1000) : ∀ (d n : Nat), d < n → (d : Int) + r + 1 ≤ S.2.1.length → b_X8_begin_11 h m (zI r) n (zI (sOf S (r + d))) (zI (r + d)) = some (zI (sOf S r)) := by
  obtain ⟨v, f, e0, e1, ⟨b1, b2, b3⟩, q0, q1, q2, q3, q4, q5, q6, q7⟩ := e
  intro d
  induction d with
  | zero =>
    intro n hn hd
    obtain ⟨n, rfl⟩ : ∃ k, n = k + 1 := ⟨n - 1, by omega⟩
    unfold b_X8_begin_11 c_X8_begin_11
    rw [if_pos ((zI_le (by omega)).mpr (by omega)), show r + ((0 : Nat) : Int) = r by omega]
  | succ d ih =>
    intro n hn hd
    obtain ⟨n, rfl⟩ : ∃ k, n = k + 1 := ⟨n - 1, by omega⟩
    unfold b_X8_begin_11 c_X8_begin_11
    have h1 := q1 (r + ((d + 1 : Nat) : Int)).toNat (by omega)
    rw [show (((r + ((d + 1 : Nat) : Int)).toNat : Nat) : Int) = r + ((d + 1 : Nat) : Int) by omega] at h1
    have h2 : (1 + (r + ((d + 1 : Nat) : Int))).toNat = 1 + (r + ((d + 1 : Nat) : Int)).toNat := by omega
    have h3 : eOf S (r + ((d + 1 : Nat) : Int)) = sOf S (r + d) := by
      unfold eOf sOf
      rw [if_pos (by omega)]
      congr 1
      omega
    rw [if_neg (fun d => absurd ((zI_le (by omega)).mp d) (by omega)), zl1, zI_add, zI_neg, zI_add, gR_e e0 rfl, Option.bind_some, aI_e e1 (by omega), Option.bind_some, h2, h1, zI_add, h3]
    rw [show sOf S (r + ((d + 1 : Nat) : Int)) + (sOf S (r + d) - sOf S (r + ((d + 1 : Nat) : Int))) = sOf S (r + d) by omega, show r + ((d + 1 : Nat) : Int) + -1 = r + d by omega]
    exact ih n (by omega) (by omega)
theorem X8_begin_is {h : HP} {m : Nat} {S : SG} (e : REF h m S) {r : Int} (hr : -1 ≤ r ∧ r < 1000) : f_X8_begin h m (zI r) = some (zI (sOf S r)) := by
  have h1 := begin_loop e hr (S.2.1.length - 1 - r).toNat FU
  obtain ⟨v, f, e0, e1, ⟨b1, b2, b3⟩, q0, q1, q2, q3, q4, q5, q6, q7⟩ := e
  unfold f_X8_begin b_X8_begin_0
  have h0 := aI_e e1 (z := 0) (by omega)
  rw [zl0, kO_e e0, Option.bind_some, gR_e e0 rfl, Option.bind_some, h0, Option.bind_some, show f (0 : Int).toNat = _ from q0, zl1, zI_sub]
  by_cases c : r ≤ S.2.1.length - 1
  · have h2 := h1 (by unfold FU; omega) (by omega)
    rw [show r + (((S.2.1.length - 1 - r).toNat : Nat) : Int) = S.2.1.length - 1 by omega] at h2
    have h3 : sOf S (S.2.1.length - 1) = 0 := by
      unfold sOf
      exact iat_out (by omega)
    rw [h3] at h2
    exact h2
  · have h3 : sOf S r = 0 := by
      unfold sOf
      exact iat_out (by omega)
    have hF : FU = 4095 + 1 := rfl
    rw [hF]
    unfold b_X8_begin_11 c_X8_begin_11
    rw [if_pos ((zI_le (by omega)).mpr (by omega)), h3]
theorem X8_manyIn_is {h : HP} {m : Nat} {S : SG} (e : REF h m S) {r : Int} (hr : -1 ≤ r ∧ r < S.2.1.length) : f_X8_manyIn h m (zI r) = some (zI (eOf S r - sOf S r)) := by
  obtain ⟨v, f, e0, e1, ⟨b1, b2, b3⟩, q0, q1, q2, q3, q4, q5, q6, q7⟩ := e
  unfold f_X8_manyIn b_X8_manyIn_0
  have h0 := aI_e e1 (z := 6) (by omega)
  rw [kO_e e0, Option.bind_some, zl1, zI_neg, show (6 : Int32) = zI 6 by decide]
  by_cases c : r = -1
  · rw [if_pos ((zI_inj (by omega)).mpr c), gR_e e0 rfl, Option.bind_some, h0, Option.bind_some, show f (6 : Int).toNat = _ from q2, c]
  · have h1 := q1 r.toNat (by omega)
    rw [show ((r.toNat : Nat) : Int) = r by omega] at h1
    rw [if_neg (fun d => c ((zI_inj (by omega)).mp d)), gR_e e0 rfl, Option.bind_some, zI_add, aI_e e1 (by omega), Option.bind_some, show (1 + r).toNat = 1 + r.toNat by omega, h1]
theorem X8_all_is {h : HP} {m : Nat} {S : SG} (e : REF h m S) : f_X8_all h m = some (zI S.1.length) := by
  have h1 := X8_begin_is e (r := -1) (by omega)
  obtain ⟨v, f, e0, e1, ⟨b1, b2, b3⟩, q0, q1, q2, q3, q4, q5, q6, q7⟩ := e
  unfold f_X8_all b_X8_all_0
  have h0 := aI_e e1 (z := 6) (by omega)
  have h2 : eOf S (-1) = S.1.length := by
    unfold eOf
    rw [if_neg (by omega)]
  rw [kO_e e0, Option.bind_some, zl1, zI_neg, show (6 : Int32) = zI 6 by decide, h1, Option.bind_some, gR_e e0 rfl, Option.bind_some, h0, Option.bind_some, show f (6 : Int).toNat = _ from q2, zI_add, h2]
  exact congrArg some (congrArg zI (by omega))
