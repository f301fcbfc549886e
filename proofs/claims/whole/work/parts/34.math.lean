/-! a store: writes, ends of the runs (the oldest first), eyes, latest number, fewer -/
abbrev SG := List WR × List Int × List Int × Int × Int
def iat (l : List Int) (j : Int) : Int := if j < 0 then 0 else l.getD j.toNat 0
def CLU (f : Nat → Int32) (l : List Int) : Prop := ∀ j : Nat, j < l.length → f j = zI (iat l j)
def WOK (w : WR) : Prop := (0 ≤ w.1 ∧ w.1 < 1000000) ∧ (0 ≤ w.2.1 ∧ w.2.1 ≤ w.2.2.1 ∧ w.2.2.1 < 100) ∧ 0 ≤ w.2.2.2 ∧ w.2.2.2 < 1000
def WSOK (ws : List WR) : Prop := ∀ w ∈ ws, WOK w
def EOK (es : List Int) (n : Int) : Prop := ∀ e ∈ es, 0 ≤ e ∧ e ≤ n
def YOK (ys : List Int) (n : Int) : Prop := ∀ e ∈ ys, 0 ≤ e ∧ e ≤ n
def STO (h : HP) (cl a cap : Nat) (S : SG) : Prop := ∃ fe fy, h a = some (.inr (3, [.ref cl, .ref (a + 3), .ref (a + 1), .ref (a + 2), .int (zI S.2.1.length), .int (zI S.2.2.1.length), .int (zI S.2.2.2.1), .int (zI S.2.2.2.2)])) ∧ ARR h (a + 1) 6 fe ∧ ARR h (a + 2) 2 fy ∧ WRS h (a + 3) cap S.1 ∧ S.2.1.length ≤ 6 ∧ S.2.2.1.length ≤ 2 ∧ CLU fe S.2.1 ∧ CLU fy S.2.2.1
theorem STO_mv {h h' : HP} {cl a cap : Nat} {S : SG} (e : STO h cl a cap S) (k : ∀ b, a ≤ b → b < a + 8 → h' b = h b) : STO h' cl a cap S := by
  obtain ⟨fe, fy, e0, e1, e2, e3, r⟩ := e
  exact ⟨fe, fy, (k _ (by omega) (by omega)).trans e0, (k _ (by omega) (by omega)).trans e1, (k _ (by omega) (by omega)).trans e2, WRS_mv e3 (fun b h1 h2 => k b (by omega) (by omega)), r⟩
theorem STO_off {h h' : HP} {cl a cap a' n' : Nat} {S : SG} (e : STO h cl a cap S) (k : OFF a' n' h h') (d : a + 8 ≤ a' ∨ a' + n' ≤ a) : STO h' cl a cap S :=
  STO_mv e fun b h1 h2 => k b (by omega)
theorem iat_out {l : List Int} {j : Int} (h : j < 0 ∨ (l.length : Int) ≤ j) : iat l j = 0 := by
  unfold iat
  split
  · rfl
  · rw [List.getD_eq_getElem?_getD, List.getElem?_eq_none (by omega)]
    rfl
theorem iat_get {l : List Int} {j : Nat} (h : j < l.length) : iat l j = l[j] := by
  unfold iat
  rw [if_neg (by omega), Int.toNat_natCast, List.getD_eq_getElem?_getD, List.getElem?_eq_getElem h]
  rfl
theorem iat_mem {l : List Int} {j : Int} (h : 0 ≤ j ∧ j < l.length) : iat l j ∈ l := by
  have : iat l (j.toNat : Nat) = l[j.toNat] := iat_get (by omega)
  rw [show ((j.toNat : Nat) : Int) = j by omega] at this
  rw [this]
  exact List.getElem_mem _
theorem CLU_at {f : Nat → Int32} {l : List Int} (H : CLU f l) {j : Int} (h : 0 ≤ j ∧ j < l.length) : f j.toNat = zI (iat l j) := by
  have := H j.toNat (by omega)
  rw [show ((j.toNat : Nat) : Int) = j by omega] at this
  exact this
/-- where a place begins, and where it ends -/
def sOf (S : SG) (i : Int) : Int := iat S.2.1 (S.2.1.length - 2 - i)
def eOf (S : SG) (i : Int) : Int := if 0 ≤ S.2.1.length - 1 - i ∧ S.2.1.length - 1 - i < S.2.1.length then iat S.2.1 (S.2.1.length - 1 - i) else S.1.length
/-- up to which number a view sees -/
def lim (S : SG) (e : Int) : Int := if 0 ≤ e ∧ e < S.2.2.1.length then iat S.2.2.1 e else S.2.2.2.1
/-- how many numbers, n from p on, are so -/
def cnt (P : Nat → Prop) [DecidablePred P] (p : Nat) : Nat → Int
  | 0 => 0
  | n + 1 => (if P p then 1 else 0) + cnt P (p + 1) n
/-- a write concerns a key -/
def wcon (w : WR) (k : Int) : Prop := w.2.1 ≤ k ∧ k ≤ w.2.2.1

theorem X3_size_is {h : HP} {cl a cap : Nat} {S : SG} (e : STO h cl a cap S) : f_X3_size h a = some (zI S.1.length) := by
  obtain ⟨fe, fy, e0, e1, e2, e3, r1, r2, c1, c2⟩ := e
  have hL := WRS_len e3
  have hc : f_X3_size h a = b_X3_size_0 h a := by
    unfold f_X3_size
    rw [kO_e e0]
    rfl
  rw [hc, b_X3_size_0]
  rw [gR_e e0 rfl, Option.bind_some, X6_size_is e3]
  rfl
theorem X3_isFull_is {h : HP} {cl a cap : Nat} {S : SG} (e : STO h cl a cap S) : f_X3_isFull h a = some (tB (48 ≤ S.1.length)) := by
  obtain ⟨fe, fy, e0, e1, e2, e3, r1, r2, c1, c2⟩ := e
  have hL := WRS_len e3
  have hc : f_X3_isFull h a = b_X3_isFull_0 h a := by
    unfold f_X3_isFull
    rw [kO_e e0]
    rfl
  rw [hc, b_X3_isFull_0]
  rw [gR_e e0 rfl, Option.bind_some, X6_size_is e3, Option.bind_some, show (48 : Int32) = zI 48 by decide]
  by_cases h1 : (S.1.length : Int) < 48
  · rw [if_pos ((zI_lt (by omega)).mpr h1), tB_0 (by omega)]
  · rw [if_neg (fun d => h1 ((zI_lt (by omega)).mp d)), tB_1 (by omega)]
theorem X3_runs_is {h : HP} {cl a cap : Nat} {S : SG} (e : STO h cl a cap S) : f_X3_runs h a = some (zI S.2.1.length) := by
  obtain ⟨fe, fy, e0, e1, e2, e3, r1, r2, c1, c2⟩ := e
  have hL := WRS_len e3
  have hc : f_X3_runs h a = b_X3_runs_0 h a := by
    unfold f_X3_runs
    rw [kO_e e0]
    rfl
  rw [hc, b_X3_runs_0]
  rw [gI_e e0 rfl]
  rfl
theorem X3_eyes_is {h : HP} {cl a cap : Nat} {S : SG} (e : STO h cl a cap S) : f_X3_eyes h a = some (zI S.2.2.1.length) := by
  obtain ⟨fe, fy, e0, e1, e2, e3, r1, r2, c1, c2⟩ := e
  have hL := WRS_len e3
  have hc : f_X3_eyes h a = b_X3_eyes_0 h a := by
    unfold f_X3_eyes
    rw [kO_e e0]
    rfl
  rw [hc, b_X3_eyes_0]
  rw [gI_e e0 rfl]
  rfl
theorem X3_latest_is {h : HP} {cl a cap : Nat} {S : SG} (e : STO h cl a cap S) : f_X3_latest h a = some (zI S.2.2.2.1) := by
  obtain ⟨fe, fy, e0, e1, e2, e3, r1, r2, c1, c2⟩ := e
  have hL := WRS_len e3
  have hc : f_X3_latest h a = b_X3_latest_0 h a := by
    unfold f_X3_latest
    rw [kO_e e0]
    rfl
  rw [hc, b_X3_latest_0]
  rw [gI_e e0 rfl]
  rfl
theorem X3_fewer_is {h : HP} {cl a cap : Nat} {S : SG} (e : STO h cl a cap S) : f_X3_fewer h a = some (zI S.2.2.2.2) := by
  obtain ⟨fe, fy, e0, e1, e2, e3, r1, r2, c1, c2⟩ := e
  have hL := WRS_len e3
  have hc : f_X3_fewer h a = b_X3_fewer_0 h a := by
    unfold f_X3_fewer
    rw [kO_e e0]
    rfl
  rw [hc, b_X3_fewer_0]
  rw [gI_e e0 rfl]
  rfl
theorem X3_isRun_is {h : HP} {cl a cap : Nat} {S : SG} (e : STO h cl a cap S) {i : Int} (hi : -2147483648 ≤ i ∧ i < 2147483648) : f_X3_isRun h a (zI i) = some (tB (0 ≤ i ∧ i < S.2.1.length)) := by
  obtain ⟨fe, fy, e0, e1, e2, e3, r1, r2, c1, c2⟩ := e
  have hL := WRS_len e3
  have hc : f_X3_isRun h a (zI i) = b_X3_isRun_0 h a (zI i) := by
    unfold f_X3_isRun
    rw [kO_e e0]
    rfl
  rw [hc, b_X3_isRun_0]
  rw [gI_e e0 rfl, Option.bind_some, zl0]
  by_cases h1 : i < 0
  · rw [if_pos ((zI_lt (by omega)).mpr h1), tB_0 (by omega)]
    rfl
  · rw [if_neg (fun d => h1 ((zI_lt (by omega)).mp d))]
    by_cases h2 : (S.2.1.length : Int) ≤ i
    · rw [if_pos ((zI_le (by omega)).mpr h2), tB_0 (by omega)]
      rfl
    · rw [if_neg (fun d => h2 ((zI_le (by omega)).mp d)), tB_1 (by omega)]
theorem X3_isEye_is {h : HP} {cl a cap : Nat} {S : SG} (e : STO h cl a cap S) {i : Int} (hi : -2147483648 ≤ i ∧ i < 2147483648) : f_X3_isEye h a (zI i) = some (tB (0 ≤ i ∧ i < S.2.2.1.length)) := by
  obtain ⟨fe, fy, e0, e1, e2, e3, r1, r2, c1, c2⟩ := e
  have hL := WRS_len e3
  have hc : f_X3_isEye h a (zI i) = b_X3_isEye_0 h a (zI i) := by
    unfold f_X3_isEye
    rw [kO_e e0]
    rfl
  rw [hc, b_X3_isEye_0]
  rw [gI_e e0 rfl, Option.bind_some, zl0]
  by_cases h1 : i < 0
  · rw [if_pos ((zI_lt (by omega)).mpr h1), tB_0 (by omega)]
    rfl
  · rw [if_neg (fun d => h1 ((zI_lt (by omega)).mp d))]
    by_cases h2 : (S.2.2.1.length : Int) ≤ i
    · rw [if_pos ((zI_le (by omega)).mpr h2), tB_0 (by omega)]
      rfl
    · rw [if_neg (fun d => h2 ((zI_le (by omega)).mp d)), tB_1 (by omega)]
theorem X3_isPlace_is {h : HP} {cl a cap : Nat} {S : SG} (e : STO h cl a cap S) {i : Int} (hi : -2147483648 ≤ i ∧ i < 2147483648) : f_X3_isPlace h a (zI i) = some (tB (-1 ≤ i ∧ i < S.2.1.length)) := by
  obtain ⟨fe, fy, e0, e1, e2, e3, r1, r2, c1, c2⟩ := e
  have hL := WRS_len e3
  have hc : f_X3_isPlace h a (zI i) = b_X3_isPlace_0 h a (zI i) := by
    unfold f_X3_isPlace
    rw [kO_e e0]
    rfl
  rw [hc, b_X3_isPlace_0]
  have e : STO h cl a cap S := ⟨fe, fy, e0, e1, e2, e3, r1, r2, c1, c2⟩
  rw [X3_isRun_is e hi, Option.bind_some, zl1, zI_neg, zl0]
  by_cases h1 : i = -1
  · rw [if_pos ((zI_inj (by omega)).mpr h1), tB_1 (by omega)]
    rfl
  · rw [if_neg (fun d => h1 ((zI_inj (by omega)).mp d))]
    by_cases h2 : 0 ≤ i ∧ i < S.2.1.length
    · rw [tB_1 h2, if_neg (by decide), tB_1 (by omega)]
      rfl
    · rw [tB_0 h2, if_pos (by decide), tB_0 (by omega)]
      rfl
theorem X3_isView_is {h : HP} {cl a cap : Nat} {S : SG} (e : STO h cl a cap S) {i : Int} (hi : -2147483648 ≤ i ∧ i < 2147483648) : f_X3_isView h a (zI i) = some (tB (-1 ≤ i ∧ i < S.2.2.1.length)) := by
  obtain ⟨fe, fy, e0, e1, e2, e3, r1, r2, c1, c2⟩ := e
  have hL := WRS_len e3
  have hc : f_X3_isView h a (zI i) = b_X3_isView_0 h a (zI i) := by
    unfold f_X3_isView
    rw [kO_e e0]
    rfl
  rw [hc, b_X3_isView_0]
  have e : STO h cl a cap S := ⟨fe, fy, e0, e1, e2, e3, r1, r2, c1, c2⟩
  rw [X3_isEye_is e hi, Option.bind_some, zl1, zI_neg, zl0]
  by_cases h1 : i = -1
  · rw [if_pos ((zI_inj (by omega)).mpr h1), tB_1 (by omega)]
    rfl
  · rw [if_neg (fun d => h1 ((zI_inj (by omega)).mp d))]
    by_cases h2 : 0 ≤ i ∧ i < S.2.2.1.length
    · rw [tB_1 h2, if_neg (by decide), tB_1 (by omega)]
      rfl
    · rw [tB_0 h2, if_pos (by decide), tB_0 (by omega)]
      rfl
theorem X3_startOf_is {h : HP} {cl a cap : Nat} {S : SG} (e : STO h cl a cap S) {i : Int} (hi : -1000000 < i ∧ i < 1000000) : f_X3_startOf h a (zI i) = some (zI (sOf S i)) := by
  obtain ⟨fe, fy, e0, e1, e2, e3, r1, r2, c1, c2⟩ := e
  have hL := WRS_len e3
  have hc : f_X3_startOf h a (zI i) = b_X3_startOf_0 h a (zI i) := by
    unfold f_X3_startOf
    rw [kO_e e0]
    rfl
  rw [hc, b_X3_startOf_0]
  rw [gI_e e0 rfl, Option.bind_some, show (2 : Int32) = zI 2 by decide, zI_sub, zI_sub, zl0]
  unfold sOf
  by_cases h1 : (S.2.1.length : Int) - 2 - i < 0
  · rw [if_pos ((zI_lt (by omega)).mpr h1), iat_out (by omega)]
  · rw [if_neg (fun d => h1 ((zI_lt (by omega)).mp d)), Option.bind_some]
    by_cases h2 : (S.2.1.length : Int) ≤ S.2.1.length - 2 - i
    · rw [if_pos ((zI_le (by omega)).mpr h2), iat_out (by omega)]
    · rw [if_neg (fun d => h2 ((zI_le (by omega)).mp d)), gR_e e0 rfl, Option.bind_some, aI_e e1 (by omega), Option.bind_some, CLU_at c1 (by omega)]
theorem X3_endOf_is {h : HP} {cl a cap : Nat} {S : SG} (e : STO h cl a cap S) {i : Int} (hi : -1000000 < i ∧ i < 1000000) : f_X3_endOf h a (zI i) = some (zI (eOf S i)) := by
  obtain ⟨fe, fy, e0, e1, e2, e3, r1, r2, c1, c2⟩ := e
  have hL := WRS_len e3
  have hc : f_X3_endOf h a (zI i) = b_X3_endOf_0 h a (zI i) := by
    unfold f_X3_endOf
    rw [kO_e e0]
    rfl
  rw [hc, b_X3_endOf_0]
  have hw : b_X3_endOf_30 h a = some (zI S.1.length) := by
    unfold b_X3_endOf_30
    rw [gR_e e0 rfl, Option.bind_some, X6_size_is e3]
    rfl
  rw [gI_e e0 rfl, Option.bind_some, zl1, zI_sub, zI_sub, zl0, hw]
  unfold eOf
  by_cases h1 : (S.2.1.length : Int) - 1 - i < 0
  · rw [if_pos ((zI_lt (by omega)).mpr h1), if_neg (by omega)]
  · rw [if_neg (fun d => h1 ((zI_lt (by omega)).mp d)), Option.bind_some]
    by_cases h2 : (S.2.1.length : Int) ≤ S.2.1.length - 1 - i
    · rw [if_pos ((zI_le (by omega)).mpr h2), if_neg (by omega)]
    · rw [if_neg (fun d => h2 ((zI_le (by omega)).mp d)), gR_e e0 rfl, Option.bind_some, aI_e e1 (by omega), Option.bind_some, CLU_at c1 (by omega), if_pos (by omega)]
theorem X3_sizeOf_is {h : HP} {cl a cap : Nat} {S : SG} (e : STO h cl a cap S) {i : Int} (hi : -1000000 < i ∧ i < 1000000) : f_X3_sizeOf h a (zI i) = some (zI (eOf S i - sOf S i)) := by
  obtain ⟨fe, fy, e0, e1, e2, e3, r1, r2, c1, c2⟩ := e
  have hL := WRS_len e3
  have hc : f_X3_sizeOf h a (zI i) = b_X3_sizeOf_0 h a (zI i) := by
    unfold f_X3_sizeOf
    rw [kO_e e0]
    rfl
  rw [hc, b_X3_sizeOf_0]
  have e : STO h cl a cap S := ⟨fe, fy, e0, e1, e2, e3, r1, r2, c1, c2⟩
  rw [X3_endOf_is e hi, Option.bind_some, X3_startOf_is e hi, Option.bind_some, zI_sub]
theorem X3_limitOf_is {h : HP} {cl a cap : Nat} {S : SG} (e : STO h cl a cap S) {i : Int} (hi : -2147483648 ≤ i ∧ i < 2147483648) : f_X3_limitOf h a (zI i) = some (zI (lim S i)) := by
  obtain ⟨fe, fy, e0, e1, e2, e3, r1, r2, c1, c2⟩ := e
  have hL := WRS_len e3
  have hc : f_X3_limitOf h a (zI i) = b_X3_limitOf_0 h a (zI i) := by
    unfold f_X3_limitOf
    rw [kO_e e0]
    rfl
  rw [hc, b_X3_limitOf_0]
  have e : STO h cl a cap S := ⟨fe, fy, e0, e1, e2, e3, r1, r2, c1, c2⟩
  rw [X3_isEye_is e hi, Option.bind_some]
  unfold lim
  by_cases h1 : 0 ≤ i ∧ i < S.2.2.1.length
  · rw [tB_1 h1, if_neg (by decide), if_pos h1, gR_e e0 rfl, Option.bind_some, aI_e e2 (by omega), Option.bind_some, CLU_at c2 (by omega)]
  · rw [tB_0 h1, if_pos rfl, if_neg h1, gI_e e0 rfl]
    rfl
theorem X3_canOpen_is {h : HP} {cl a cap : Nat} {S : SG} (e : STO h cl a cap S) : f_X3_canOpen h a = some (tB (S.2.2.1.length < 2)) := by
  obtain ⟨fe, fy, e0, e1, e2, e3, r1, r2, c1, c2⟩ := e
  have hL := WRS_len e3
  have hc : f_X3_canOpen h a = b_X3_canOpen_0 h a := by
    unfold f_X3_canOpen
    rw [kO_e e0]
    rfl
  rw [hc, b_X3_canOpen_0]
  rw [gI_e e0 rfl, Option.bind_some, show (2 : Int32) = zI 2 by decide]
  by_cases h1 : 2 ≤ (S.2.2.1.length : Int)
  · rw [if_pos ((zI_le (by omega)).mpr h1), tB_0 (by omega)]
  · rw [if_neg (fun d => h1 ((zI_le (by omega)).mp d)), tB_1 (by omega)]
