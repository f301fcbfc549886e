abbrev SG := List WR × List Int × List Int × Int × Int
def iat (l : List Int) (j : Int) : Int := if j < 0 then 0 else l.getD j.toNat 0
def CLU (f : Nat → Int32) (l : List Int) : Prop := ∀ j : Nat, j < l.length → f j = zI (iat l j)
def WOK (w : WR) : Prop := (0 ≤ w.1 ∧ w.1 < 1000000) ∧ (0 ≤ w.2.1 ∧ w.2.1 ≤ w.2.2.1 ∧ w.2.2.1 < 100) ∧ 0 ≤ w.2.2.2 ∧ w.2.2.2 < 1000
def WSOK (ws : List WR) : Prop := ∀ w ∈ ws, WOK w
def YOK (ys : List Int) (n : Int) : Prop := ∀ e ∈ ys, 0 ≤ e ∧ e ≤ n
def STO (h : HP) (cl a cap : Nat) (S : SG) : Prop := ∃ fe fy, h a = some (.inr (3, [.ref cl, .ref (a + 3), .ref (a + 1), .ref (a + 2), .int (zI S.2.1.length), .int (zI S.2.2.1.length), .int (zI S.2.2.2.1), .int (zI S.2.2.2.2)])) ∧ ARR h (a + 1) 6 fe ∧ ARR h (a + 2) 2 fy ∧ WRS h (a + 3) cap S.1 ∧ S.2.1.length ≤ 6 ∧ S.2.2.1.length ≤ 2 ∧ CLU fe S.2.1 ∧ CLU fy S.2.2.1
theorem STO_mv {h h' : HP} {cl a cap : Nat} {S : SG} (e : STO h cl a cap S) (k : ∀ b, a ≤ b → b < a + 8 → h' b = h b) : STO h' cl a cap S := by
  obtain ⟨fe, fy, e0, e1, e2, e3, r⟩ := e
  exact ⟨fe, fy, (k _ (by omega) (by omega)).trans e0, (k _ (by omega) (by omega)).trans e1, (k _ (by omega) (by omega)).trans e2, WRS_mv e3 (fun b h1 h2 => k b (by omega) (by omega)), r⟩
theorem STO_off {h h' : HP} {cl a cap a' n' : Nat} {S : SG} (e : STO h cl a cap S) (k : OFF a' n' h h') (d : a + 8 ≤ a' ∨ a' + n' ≤ a) : STO h' cl a cap S :=
  STO_mv e fun b h1 h2 => k b (by omega)
theorem iat_out {l : List Int} {j : Int} (h : j < 0 ∨ (l.length : Int) ≤ j) : iat l j = 0 := by
  unfold iat
  split
  · rfl
  · rw [List.getD_eq_getElem?_getD, List.getElem?_eq_none (by omega)]
    rfl
theorem iat_get {l : List Int} {j : Nat} (h : j < l.length) : iat l j = l[j] := by
  unfold iat
  rw [if_neg (by omega), Int.toNat_natCast, List.getD_eq_getElem?_getD, List.getElem?_eq_getElem h]
  rfl
theorem iat_mem {l : List Int} {j : Int} (h : 0 ≤ j ∧ j < l.length) : iat l j ∈ l := by
  have : iat l (j.toNat : Nat) = l[j.toNat] := iat_get (by omega)
  rw [show ((j.toNat : Nat) : Int) = j by omega] at this
  rw [this]
  exact List.getElem_mem _
theorem CLU_at {f : Nat → Int32} {l : List Int} (H : CLU f l) {j : Int} (h : 0 ≤ j ∧ j < l.length) : f j.toNat = zI (iat l j) := by
  have := H j.toNat (by omega)
  rw [show ((j.toNat : Nat) : Int) = j by omega] at this
  exact this
def sOf (S : SG) (i : Int) : Int := iat S.2.1 (S.2.1.length - 2 - i)
def eOf (S : SG) (i : Int) : Int := if 0 ≤ S.2.1.length - 1 - i ∧ S.2.1.length - 1 - i < S.2.1.length then iat S.2.1 (S.2.1.length - 1 - i) else S.1.length
def lim (S : SG) (e : Int) : Int := if 0 ≤ e ∧ e < S.2.2.1.length then iat S.2.2.1 e else S.2.2.2.1
def cnt (P : Nat → Prop) [DecidablePred P] (p : Nat) : Nat → Int
  | 0 => 0
  | n + 1 => (if P p then 1 else 0) + cnt P (p + 1) n
theorem X3_size_is {h : HP} {cl a cap : Nat} {S : SG} (e : STO h cl a cap S) : f_X3_size h a = some (zI S.1.length) := by
  obtain ⟨fe, fy, e0, e1, e2, e3, r1, r2, c1, c2⟩ := e
  have hL := WRS_len e3
  have hc : f_X3_size h a = b_X3_size_0 h a := by
    unfold f_X3_size
    rw [kO_e e0]
    rfl
  rw [hc, b_X3_size_0]
  rw [gR_e e0 rfl, Option.bind_some, X6_size_is e3]
  rfl
theorem X3_isFull_is {h : HP} {cl a cap : Nat} {S : SG} (e : STO h cl a cap S) : f_X3_isFull h a = some (tB (48 ≤ S.1.length)) := by
  obtain ⟨fe, fy, e0, e1, e2, e3, r1, r2, c1, c2⟩ := e
  have hL := WRS_len e3
  have hc : f_X3_isFull h a = b_X3_isFull_0 h a := by
    unfold f_X3_isFull
    rw [kO_e e0]
    rfl
  rw [hc, b_X3_isFull_0]
  rw [gR_e e0 rfl, Option.bind_some, X6_size_is e3, Option.bind_some, show (48 : Int32) = zI 48 by decide]
  by_cases h1 : (S.1.length : Int) < 48
  · rw [if_pos ((zI_lt (by omega)).mpr h1), tB_0 (by omega)]
  · rw [if_neg (fun d => h1 ((zI_lt (by omega)).mp d)), tB_1 (by omega)]
theorem X3_runs_is {h : HP} {cl a cap : Nat} {S : SG} (e : STO h cl a cap S) : f_X3_runs h a = some (zI S.2.1.length) := by
  obtain ⟨fe, fy, e0, e1, e2, e3, r1, r2, c1, c2⟩ := e
  have hL := WRS_len e3
  have hc : f_X3_runs h a = b_X3_runs_0 h a := by
    unfold f_X3_runs
    rw [kO_e e0]
    rfl
  rw [hc, b_X3_runs_0]
  rw [gI_e e0 rfl]
  rfl
theorem X3_eyes_is {h : HP} {cl a cap : Nat} {S : SG} (e : STO h cl a cap S) : f_X3_eyes h a = some (zI S.2.2.1.length) := by
  obtain ⟨fe, fy, e0, e1, e2, e3, r1, r2, c1, c2⟩ := e
  have hL := WRS_len e3
  have hc : f_X3_eyes h a = b_X3_eyes_0 h a := by
    unfold f_X3_eyes
    rw [kO_e e0]
    rfl
  rw [hc, b_X3_eyes_0]
  rw [gI_e e0 rfl]
  rfl
theorem X3_latest_is {h : HP} {cl a cap : Nat} {S : SG} (e : STO h cl a cap S) : f_X3_latest h a = some (zI S.2.2.2.1) := by
  obtain ⟨fe, fy, e0, e1, e2, e3, r1, r2, c1, c2⟩ := e
  have hL := WRS_len e3
  have hc : f_X3_latest h a = b_X3_latest_0 h a := by
    unfold f_X3_latest
    rw [kO_e e0]
    rfl
  rw [hc, b_X3_latest_0]
  rw [gI_e e0 rfl]
  rfl
theorem X3_fewer_is {h : HP} {cl a cap : Nat} {S : SG} (e : STO h cl a cap S) : f_X3_fewer h a = some (zI S.2.2.2.2) := by
  obtain ⟨fe, fy, e0, e1, e2, e3, r1, r2, c1, c2⟩ := e
  have hL := WRS_len e3
  have hc : f_X3_fewer h a = b_X3_fewer_0 h a := by
    unfold f_X3_fewer
    rw [kO_e e0]
    rfl
  rw [hc, b_X3_fewer_0]
  rw [gI_e e0 rfl]
  rfl
theorem X3_isRun_is {h : HP} {cl a cap : Nat} {S : SG} (e : STO h cl a cap S) {i : Int} (hi : -2147483648 ≤ i ∧ i < 2147483648) : f_X3_isRun h a (zI i) = some (tB (0 ≤ i ∧ i < S.2.1.length)) := by
  obtain ⟨fe, fy, e0, e1, e2, e3, r1, r2, c1, c2⟩ := e
  have hL := WRS_len e3
  have hc : f_X3_isRun h a (zI i) = b_X3_isRun_0 h a (zI i) := by
    unfold f_X3_isRun
    rw [kO_e e0]
    rfl
  rw [hc, b_X3_isRun_0]
  rw [gI_e e0 rfl, Option.bind_some, zl0]
  by_cases h1 : i < 0
  · rw [if_pos ((zI_lt (by omega)).mpr h1), tB_0 (by omega)]
    rfl
  · rw [if_neg (fun d => h1 ((zI_lt (by omega)).mp d))]
    by_cases h2 : (S.2.1.length : Int) ≤ i
    · rw [if_pos ((zI_le (by omega)).mpr h2), tB_0 (by omega)]
      rfl
    · rw [if_neg (fun d => h2 ((zI_le (by omega)).mp d)), tB_1 (by omega)]
theorem X3_isEye_is {h : HP} {cl a cap : Nat} {S : SG} (e : STO h cl a cap S) {i : Int} (hi : -2147483648 ≤ i ∧ i < 2147483648) : f_X3_isEye h a (zI i) = some (tB (0 ≤ i ∧ i < S.2.2.1.length)) := by
  obtain ⟨fe, fy, e0, e1, e2, e3, r1, r2, c1, c2⟩ := e
  have hL := WRS_len e3
  have hc : f_X3_isEye h a (zI i) = b_X3_isEye_0 h a (zI i) := by
    unfold f_X3_isEye
    rw [kO_e e0]
    rfl
  rw [hc, b_X3_isEye_0]
  rw [gI_e e0 rfl, Option.bind_some, zl0]
  by_cases h1 : i < 0
  · rw [if_pos ((zI_lt (by omega)).mpr h1), tB_0 (by omega)]
    rfl
  · rw [if_neg (fun d => h1 ((zI_lt (by omega)).mp d))]
    by_cases h2 : (S.2.2.1.length : Int) ≤ i
    · rw [if_pos ((zI_le (by omega)).mpr h2), tB_0 (by omega)]
      rfl
    · rw [if_neg (fun d => h2 ((zI_le (by omega)).mp d)), tB_1 (by omega)]
theorem X3_isPlace_is {h : HP} {cl a cap : Nat} {S : SG} (e : STO h cl a cap S) {i : Int} (hi : -2147483648 ≤ i ∧ i < 2147483648) : f_X3_isPlace h a (zI i) = some (tB (-1 ≤ i ∧ i < S.2.1.length)) := by
  obtain ⟨fe, fy, e0, e1, e2, e3, r1, r2, c1, c2⟩ := e
  have hL := WRS_len e3
  have hc : f_X3_isPlace h a (zI i) = b_X3_isPlace_0 h a (zI i) := by
    unfold f_X3_isPlace
    rw [kO_e e0]
    rfl
  rw [hc, b_X3_isPlace_0]
  have e : STO h cl a cap S := ⟨fe, fy, e0, e1, e2, e3, r1, r2, c1, c2⟩
  rw [X3_isRun_is e hi, Option.bind_some, zl1, zI_neg, zl0]
  by_cases h1 : i = -1
  · rw [if_pos ((zI_inj (by omega)).mpr h1), tB_1 (by omega)]
    rfl
  · rw [if_neg (fun d => h1 ((zI_inj (by omega)).mp d))]
    by_cases h2 : 0 ≤ i ∧ i < S.2.1.length
    · rw [tB_1 h2, if_neg (by decide), tB_1 (by omega)]
      rfl
    · rw [tB_0 h2, if_pos (by decide), tB_0 (by omega)]
      rfl
theorem X3_isView_is {h : HP} {cl a cap : Nat} {S : SG} (e : STO h cl a cap S) {i : Int} (hi : -2147483648 ≤ i ∧ i < 2147483648) : f_X3_isView h a (zI i) = some (tB (-1 ≤ i ∧ i < S.2.2.1.length)) := by
  obtain ⟨fe, fy, e0, e1, e2, e3, r1, r2, c1, c2⟩ := e
  have hL := WRS_len e3
  have hc : f_X3_isView h a (zI i) = b_X3_isView_0 h a (zI i) := by
    unfold f_X3_isView
    rw [kO_e e0]
    rfl
  rw [hc, b_X3_isView_0]
  have e : STO h cl a cap S := ⟨fe, fy, e0, e1, e2, e3, r1, r2, c1, c2⟩
  rw [X3_isEye_is e hi, Option.bind_some, zl1, zI_neg, zl0]
  by_cases h1 : i = -1
  · rw [if_pos ((zI_inj (by omega)).mpr h1), tB_1 (by omega)]
    rfl
  · rw [if_neg (fun d => h1 ((zI_inj (by omega)).mp d))]
    by_cases h2 : 0 ≤ i ∧ i < S.2.2.1.length
    · rw [tB_1 h2, if_neg (by decide), tB_1 (by omega)]
      rfl
    · rw [tB_0 h2, if_pos (by decide), tB_0 (by omega)]
      rfl
theorem X3_startOf_is {h : HP} {cl a cap : Nat} {S : SG} (e : STO h cl a cap S) {i : Int} (hi : -1000000 < i ∧ i < 1000000) : f_X3_startOf h a (zI i) = some (zI (sOf S i)) := by
  obtain ⟨fe, fy, e0, e1, e2, e3, r1, r2, c1, c2⟩ := e
  have hL := WRS_len e3
  have hc : f_X3_startOf h a (zI i) = b_X3_startOf_0 h a (zI i) := by
    unfold f_X3_startOf
    rw [kO_e e0]
    rfl
  rw [hc, b_X3_startOf_0]
  rw [gI_e e0 rfl, Option.bind_some, show (2 : Int32) = zI 2 by decide, zI_sub, zI_sub, zl0]
  unfold sOf
  by_cases h1 : (S.2.1.length : Int) - 2 - i < 0
  · rw [if_pos ((zI_lt (by omega)).mpr h1), iat_out (by omega)]
  · rw [if_neg (fun d => h1 ((zI_lt (by omega)).mp d)), Option.bind_some]
    by_cases h2 : (S.2.1.length : Int) ≤ S.2.1.length - 2 - i
    · rw [if_pos ((zI_le (by omega)).mpr h2), iat_out (by omega)]
    · rw [if_neg (fun d => h2 ((zI_le (by omega)).mp d)), gR_e e0 rfl, Option.bind_some, aI_e e1 (by omega), Option.bind_some, CLU_at c1 (by omega)]
theorem X3_endOf_is {h : HP} {cl a cap : Nat} {S : SG} (e : STO h cl a cap S) {i : Int} (hi : -1000000 < i ∧ i < 1000000) : f_X3_endOf h a (zI i) = some (zI (eOf S i)) := by
  obtain ⟨fe, fy, e0, e1, e2, e3, r1, r2, c1, c2⟩ := e
  have hL := WRS_len e3
  have hc : f_X3_endOf h a (zI i) = b_X3_endOf_0 h a (zI i) := by
    unfold f_X3_endOf
    rw [kO_e e0]
    rfl
  rw [hc, b_X3_endOf_0]
  have hw : b_X3_endOf_30 h a = some (zI S.1.length) := by
    unfold b_X3_endOf_30
    rw [gR_e e0 rfl, Option.bind_some, X6_size_is e3]
    rfl
  rw [gI_e e0 rfl, Option.bind_some, zl1, zI_sub, zI_sub, zl0, hw]
  unfold eOf
  by_cases h1 : (S.2.1.length : Int) - 1 - i < 0
  · rw [if_pos ((zI_lt (by omega)).mpr h1), if_neg (by omega)]
  · rw [if_neg (fun d => h1 ((zI_lt (by omega)).mp d)), Option.bind_some]
    by_cases h2 : (S.2.1.length : Int) ≤ S.2.1.length - 1 - i
    · rw [if_pos ((zI_le (by omega)).mpr h2), if_neg (by omega)]
    · rw [if_neg (fun d => h2 ((zI_le (by omega)).mp d)), gR_e e0 rfl, Option.bind_some, aI_e e1 (by omega), Option.bind_some, CLU_at c1 (by omega), if_pos (by omega)]
theorem X3_sizeOf_is {h : HP} {cl a cap : Nat} {S : SG} (e : STO h cl a cap S) {i : Int} (hi : -1000000 < i ∧ i < 1000000) : f_X3_sizeOf h a (zI i) = some (zI (eOf S i - sOf S i)) := by
  obtain ⟨fe, fy, e0, e1, e2, e3, r1, r2, c1, c2⟩ := e
  have hL := WRS_len e3
  have hc : f_X3_sizeOf h a (zI i) = b_X3_sizeOf_0 h a (zI i) := by
    unfold f_X3_sizeOf
    rw [kO_e e0]
    rfl
  rw [hc, b_X3_sizeOf_0]
  have e : STO h cl a cap S := ⟨fe, fy, e0, e1, e2, e3, r1, r2, c1, c2⟩
  rw [X3_endOf_is e hi, Option.bind_some, X3_startOf_is e hi, Option.bind_some, zI_sub]
theorem X3_limitOf_is {h : HP} {cl a cap : Nat} {S : SG} (e : STO h cl a cap S) {i : Int} (hi : -2147483648 ≤ i ∧ i < 2147483648) : f_X3_limitOf h a (zI i) = some (zI (lim S i)) := by
  obtain ⟨fe, fy, e0, e1, e2, e3, r1, r2, c1, c2⟩ := e
  have hL := WRS_len e3
  have hc : f_X3_limitOf h a (zI i) = b_X3_limitOf_0 h a (zI i) := by
    unfold f_X3_limitOf
    rw [kO_e e0]
    rfl
  rw [hc, b_X3_limitOf_0]
  have e : STO h cl a cap S := ⟨fe, fy, e0, e1, e2, e3, r1, r2, c1, c2⟩
  rw [X3_isEye_is e hi, Option.bind_some]
  unfold lim
  by_cases h1 : 0 ≤ i ∧ i < S.2.2.1.length
  · rw [tB_1 h1, if_neg (by decide), if_pos h1, gR_e e0 rfl, Option.bind_some, aI_e e2 (by omega), Option.bind_some, CLU_at c2 (by omega)]
  · rw [tB_0 h1, if_pos rfl, if_neg h1, gI_e e0 rfl]
    rfl
theorem X3_canOpen_is {h : HP} {cl a cap : Nat} {S : SG} (e : STO h cl a cap S) : f_X3_canOpen h a = some (tB (S.2.2.1.length < 2)) := by
  obtain ⟨fe, fy, e0, e1, e2, e3, r1, r2, c1, c2⟩ := e
  have hL := WRS_len e3
  have hc : f_X3_canOpen h a = b_X3_canOpen_0 h a := by
    unfold f_X3_canOpen
    rw [kO_e e0]
    rfl
  rw [hc, b_X3_canOpen_0]
  rw [gI_e e0 rfl, Option.bind_some, show (2 : Int32) = zI 2 by decide]
  by_cases h1 : 2 ≤ (S.2.2.1.length : Int)
  · rw [if_pos ((zI_le (by omega)).mpr h1), tB_0 (by omega)]
  · rw [if_neg (fun d => h1 ((zI_le (by omega)).mp d)), tB_1 (by omega)]
def nfD (ws : List WR) (k m : Int) : Nat → Int
  | 0 => -1
  | n + 1 => if (wat ws n).1 ≤ m ∧ (wat ws n).2.1 ≤ k ∧ k ≤ (wat ws n).2.2.1 then n else nfD ws k m n
def nfI (ws : List WR) (k m : Int) : Int := nfD ws k m ws.length
theorem nfD_rng (ws : List WR) (k m : Int) (n : Nat) : -1 ≤ nfD ws k m n ∧ nfD ws k m n < n := by
  induction n with
  | zero =>
    unfold nfD
    omega
  | succ n ih =>
    unfold nfD
    split <;> omega
theorem WOK_at {ws : List WR} (H : WSOK ws) {j : Int} (h : 0 ≤ j ∧ j < ws.length) : WOK (wat ws j) := H _ (wat_mem h)
theorem WSOK_v {ws : List WR} (H : WSOK ws) : ∀ w ∈ ws, 0 ≤ w.2.2.2 ∧ w.2.2.2 < 1000 := fun w hw => (H w hw).2.2
theorem WSOK_k {ws : List WR} (H : WSOK ws) : ∀ w ∈ ws, 0 ≤ w.2.1 ∧ w.2.1 < 1000 ∧ 0 ≤ w.2.2.1 ∧ w.2.2.1 < 1000 := fun w hw => by
  have := (H w hw).2.1
  omega
theorem entriesIn_loop {h : HP} {cl a cap : Nat} {S : SG} (e : STO h cl a cap S) (hw : WSOK S.1) {to : Nat} (ht : to < 100000) : ∀ (m n : Nat) (acc : Int) (j : Nat), m < n → j + m = to → b_X3_entriesIn_5 h a (zI to) n (zI acc) (zI j) = some (zI (acc + cnt (fun i => 0 < (wat S.1 i).2.2.2) j m)) := by
  obtain ⟨fe, fy, e0, e1, e2, e3, r1, r2, c1, c2⟩ := e
  intro m
  induction m with
  | zero =>
    intro n acc j hn hj
    obtain ⟨n, rfl⟩ : ∃ k, n = k + 1 := ⟨n - 1, by omega⟩
    unfold b_X3_entriesIn_5 c_X3_entriesIn_5
    rw [if_pos ((zI_le (by omega)).mpr (by omega))]
    unfold cnt
    rw [Int.add_zero]
  | succ m ih =>
    intro n acc j hn hj
    obtain ⟨n, rfl⟩ : ∃ k, n = k + 1 := ⟨n - 1, by omega⟩
    unfold b_X3_entriesIn_5 c_X3_entriesIn_5
    rw [if_neg (fun d => absurd ((zI_le (by omega)).mp d) (by omega)), gR_e e0 rfl, Option.bind_some, X6_isEntry_is e3 (by omega) (WSOK_v hw), Option.bind_some]
    unfold cnt
    simp only [zl1, zI_add]
    by_cases h1 : 0 < (wat S.1 j).2.2.2
    · rw [tB_1 h1, if_neg (by decide), if_pos h1]
      have := ih n (acc + 1) (j + 1) (by omega) (by omega)
      rw [show (((j + 1 : Nat)) : Int) = (j : Int) + 1 by omega] at this
      rw [this, Int.add_assoc]
    · rw [tB_0 h1, if_pos rfl, if_neg h1]
      have := ih n acc (j + 1) (by omega) (by omega)
      rw [show (((j + 1 : Nat)) : Int) = (j : Int) + 1 by omega] at this
      rw [this, Int.zero_add]
theorem X3_entriesIn_is {h : HP} {cl a cap : Nat} {S : SG} (e : STO h cl a cap S) (hw : WSOK S.1) {p m : Nat} (ht : p + m < 4000) : f_X3_entriesIn h a (zI p) (zI (p + m : Nat)) = some (zI (cnt (fun i => 0 < (wat S.1 i).2.2.2) p m)) := by
  have h1 := entriesIn_loop e hw (to := p + m) (by omega) m FU 0 p (by unfold FU; omega) rfl
  obtain ⟨fe, fy, e0, e1, e2, e3, r1, r2, c1, c2⟩ := e
  unfold f_X3_entriesIn b_X3_entriesIn_0
  rw [kO_e e0, Option.bind_some, zl0, h1, Int.zero_add]
theorem eyesBefore_loop {h : HP} {cl a cap : Nat} {S : SG} (e : STO h cl a cap S) {M : Int} (hy : YOK S.2.2.1 M) (hM : M < 1000000) {num : Int} (hn : -1000000 < num ∧ num < 1000000) : ∀ (m n : Nat) (acc : Int) (j : Nat), m < n → j + m = S.2.2.1.length → b_X3_eyesBefore_4 h a (zI num) n (zI acc) (zI j) = some (zI (acc + cnt (fun i => iat S.2.2.1 i < num) j m)) := by
  obtain ⟨fe, fy, e0, e1, e2, e3, r1, r2, c1, c2⟩ := e
  intro m
  induction m with
  | zero =>
    intro n acc j hn hj
    obtain ⟨n, rfl⟩ : ∃ k, n = k + 1 := ⟨n - 1, by omega⟩
    unfold b_X3_eyesBefore_4 c_X3_eyesBefore_4
    rw [gI_e e0 rfl, Option.bind_some, if_pos ((zI_le (by omega)).mpr (by omega))]
    unfold cnt
    rw [Int.add_zero]
  | succ m ih =>
    intro n acc j hn hj
    obtain ⟨n, rfl⟩ : ∃ k, n = k + 1 := ⟨n - 1, by omega⟩
    unfold b_X3_eyesBefore_4 c_X3_eyesBefore_4
    have hm := hy _ (iat_mem (l := S.2.2.1) (j := j) (by omega))
    rw [gI_e e0 rfl, Option.bind_some, if_neg (fun d => absurd ((zI_le (by omega)).mp d) (by omega)), gR_e e0 rfl, Option.bind_some, aI_e e2 (by omega), Option.bind_some, CLU_at c2 (by omega)]
    unfold cnt
    simp only [zl1, zI_add]
    by_cases h1 : iat S.2.2.1 j < num
    · rw [if_neg (fun d => absurd ((zI_le (by omega)).mp d) (by omega)), if_pos h1]
      have := ih n (acc + 1) (j + 1) (by omega) (by omega)
      rw [show (((j + 1 : Nat)) : Int) = (j : Int) + 1 by omega] at this
      rw [this, Int.add_assoc]
    · rw [if_pos ((zI_le (by omega)).mpr (by omega)), if_neg h1]
      have := ih n acc (j + 1) (by omega) (by omega)
      rw [show (((j + 1 : Nat)) : Int) = (j : Int) + 1 by omega] at this
      rw [this, Int.zero_add]
def eB (ys : List Int) (num : Int) : Int := cnt (fun i => iat ys i < num) 0 ys.length
theorem X3_eyesBefore_is {h : HP} {cl a cap : Nat} {S : SG} (e : STO h cl a cap S) {M : Int} (hy : YOK S.2.2.1 M) (hM : M < 1000000) {num : Int} (hn : -1000000 < num ∧ num < 1000000) : f_X3_eyesBefore h a (zI num) = some (zI (eB S.2.2.1 num)) := by
  have hl : S.2.2.1.length ≤ 2 := by
    obtain ⟨fe, fy, e0, e1, e2, e3, r1, r2, c1, c2⟩ := e
    exact r2
  have h1 := eyesBefore_loop e hy hM hn S.2.2.1.length FU 0 0 (by unfold FU; omega) (by omega)
  obtain ⟨fe, fy, e0, e1, e2, e3, r1, r2, c1, c2⟩ := e
  unfold f_X3_eyesBefore b_X3_eyesBefore_0
  rw [Int.zero_add] at h1
  rw [kO_e e0, Option.bind_some, zl0]
  exact h1
theorem newestFor_loop {h : HP} {cl a cap : Nat} {S : SG} (e : STO h cl a cap S) (hw : WSOK S.1) {k m : Int} (hk : -1000000 < k ∧ k < 1000000) (hm : -1000000 < m ∧ m < 1000000) : ∀ (j n : Nat), j < n → j ≤ S.1.length → b_X3_newestFor_10 h a (zI k) (zI m) n (zI ((j : Int) - 1)) = some (zI (nfD S.1 k m j)) := by
  have hL : S.1.length < 1000 := by
    obtain ⟨fe, fy, e0, e1, e2, e3, r1, r2, c1, c2⟩ := e
    have := WRS_len e3
    omega
  obtain ⟨fe, fy, e0, e1, e2, e3, r1, r2, c1, c2⟩ := e
  intro j
  induction j with
  | zero =>
    intro n hn hj
    obtain ⟨n, rfl⟩ : ∃ k, n = k + 1 := ⟨n - 1, by omega⟩
    unfold b_X3_newestFor_10 c_X3_newestFor_10
    rw [zl0, if_pos ((zI_lt (by omega)).mpr (by omega))]
    rfl
  | succ j ih =>
    intro n hn hj
    obtain ⟨n, rfl⟩ : ∃ k, n = k + 1 := ⟨n - 1, by omega⟩
    have hwj := WOK_at hw (j := j) (by omega)
    have hi := ih n (by omega) (by omega)
    unfold WOK at hwj
    unfold b_X3_newestFor_10 c_X3_newestFor_10 nfD
    rw [show (((j + 1 : Nat)) : Int) - 1 = (j : Int) by omega]
    simp only [zl0, zl1, zI_neg, zI_add]
    rw [if_neg (fun d => absurd ((zI_lt (by omega)).mp d) (by omega)), gR_e e0 rfl, Option.bind_some, X6_numberAt_is e3 (by omega), Option.bind_some, Option.bind_some, X6_concerns_is e3 (by omega) hk (WSOK_k hw), Option.bind_some, show (j : Int) + -1 = (j : Int) - 1 by omega, hi]
    by_cases h1 : m < (wat S.1 j).1
    · rw [if_pos ((zI_lt (by omega)).mpr h1), if_neg (by omega)]
    · rw [if_neg (fun d => h1 ((zI_lt (by omega)).mp d))]
      by_cases h2 : (wat S.1 j).2.1 ≤ k ∧ k ≤ (wat S.1 j).2.2.1
      · rw [tB_1 (by omega), if_neg (by decide), if_pos (by omega)]
      · rw [tB_0 (by omega), if_pos (by decide), if_neg (by omega)]
theorem X3_newestFor_is {h : HP} {cl a cap : Nat} {S : SG} (e : STO h cl a cap S) (hw : WSOK S.1) {k m : Int} (hk : -1000000 < k ∧ k < 1000000) (hm : -1000000 < m ∧ m < 1000000) : f_X3_newestFor h a (zI k) (zI m) = some (zI (nfI S.1 k m)) := by
  have hL : S.1.length < 1000 := by
    obtain ⟨fe, fy, e0, e1, e2, e3, r1, r2, c1, c2⟩ := e
    have := WRS_len e3
    omega
  have h1 := newestFor_loop e hw hk hm S.1.length FU (by unfold FU; omega) (Nat.le_refl _)
  obtain ⟨fe, fy, e0, e1, e2, e3, r1, r2, c1, c2⟩ := e
  unfold f_X3_newestFor b_X3_newestFor_0
  rw [kO_e e0, Option.bind_some, gR_e e0 rfl, Option.bind_some, X6_size_is e3, Option.bind_some, zl1, zI_sub]
  exact h1
theorem X3_valueFor_is {h : HP} {cl a cap : Nat} {S : SG} (e : STO h cl a cap S) (hw : WSOK S.1) {k m : Int} (hk : -1000000 < k ∧ k < 1000000) (hm : -1000000 < m ∧ m < 1000000) : f_X3_valueFor h a (zI k) (zI m) = some (zI (wat S.1 (nfI S.1 k m)).2.2.2) := by
  have hL : S.1.length < 1000 := by
    obtain ⟨fe, fy, e0, e1, e2, e3, r1, r2, c1, c2⟩ := e
    have := WRS_len e3
    omega
  have h1 := X3_newestFor_is e hw hk hm
  have h2 := nfD_rng S.1 k m S.1.length
  obtain ⟨fe, fy, e0, e1, e2, e3, r1, r2, c1, c2⟩ := e
  unfold f_X3_valueFor b_X3_valueFor_0
  rw [kO_e e0, Option.bind_some, gR_e e0 rfl, Option.bind_some, h1, Option.bind_some, X6_valueAt_is e3 (by unfold nfI; omega), Option.bind_some]
theorem X3_dropAllEyes_is {h : HP} {cl a cap : Nat} {S : SG} (e : STO h cl a cap S) : WP (f_X3_dropAllEyes h a) (fun h' => STO h' cl a cap (S.1, S.2.1, [], S.2.2.2.1, S.2.2.2.2) ∧ OFF a 8 h h') := by
  obtain ⟨fe, fy, e0, e1, e2, e3, r1, r2, c1, c2⟩ := e
  have hL := WRS_len e3
  unfold f_X3_dropAllEyes b_X3_dropAllEyes_0
  have g0 := OFF_refl a 8 h
  refine wb (kO_e e0) ?_
  simp only [zl0]
  refine wb (pI_e2 (fs2 := [.ref cl, .ref (a + 3), .ref (a + 1), .ref (a + 2), .int (zI S.2.1.length), .int (zI 0), .int (zI S.2.2.2.1), .int (zI S.2.2.2.2)]) e0 (show 5 < 8 by omega) rfl) ?_
  have e1 := ARR_ne (e := .inr (3, [.ref cl, .ref (a + 3), .ref (a + 1), .ref (a + 2), .int (zI S.2.1.length), .int (zI 0), .int (zI S.2.2.2.1), .int (zI S.2.2.2.2)])) e1 (show a + 1 ≠ a by omega)
  have e2 := ARR_ne (e := .inr (3, [.ref cl, .ref (a + 3), .ref (a + 1), .ref (a + 2), .int (zI S.2.1.length), .int (zI 0), .int (zI S.2.2.2.1), .int (zI S.2.2.2.2)])) e2 (show a + 2 ≠ a by omega)
  have e3 := WRS_off e3 (OFF_up (OFF_refl (a) 1 h) (c := a) (e := .inr (3, [.ref cl, .ref (a + 3), .ref (a + 1), .ref (a + 2), .int (zI S.2.1.length), .int (zI 0), .int (zI S.2.2.2.1), .int (zI S.2.2.2.2)])) (by omega)) (by omega)
  have e0 := hup_same h (a) (.inr (3, [.ref cl, .ref (a + 3), .ref (a + 1), .ref (a + 2), .int (zI S.2.1.length), .int (zI 0), .int (zI S.2.2.2.1), .int (zI S.2.2.2.2)]))
  have g1 := OFF_up g0 (c := a) (e := .inr (3, [.ref cl, .ref (a + 3), .ref (a + 1), .ref (a + 2), .int (zI S.2.1.length), .int (zI 0), .int (zI S.2.2.2.1), .int (zI S.2.2.2.2)])) (by omega)
  generalize hup h (a) _ = h11 at *
  exact wr ⟨⟨fe, fy, e0, e1, e2, e3, r1, Nat.zero_le _, c1, fun j hj => absurd hj (Nat.not_lt_zero _)⟩, g1⟩
theorem X3_addWrite_is {h : HP} {cl a cap : Nat} {S : SG} (e : STO h cl a cap S) (p q v : Int) (hl : S.1.length < cap) : WP (f_X3_addWrite h a (zI p) (zI q) (zI v)) (fun h' => STO h' cl a cap (S.1 ++ [(S.2.2.2.1 + 1, p, q, v)], S.2.1, S.2.2.1, S.2.2.2.1 + 1, S.2.2.2.2) ∧ OFF a 8 h h') := by
  obtain ⟨fe, fy, e0, e1, e2, e3, r1, r2, c1, c2⟩ := e
  have hL := WRS_len e3
  unfold f_X3_addWrite b_X3_addWrite_0
  have g0 := OFF_refl a 8 h
  refine wb (kO_e e0) ?_
  refine wb (gI_e e0 rfl) ?_
  simp only [zl1, zI_add]
  refine wb (pI_e2 (fs2 := [.ref cl, .ref (a + 3), .ref (a + 1), .ref (a + 2), .int (zI S.2.1.length), .int (zI S.2.2.1.length), .int (zI (S.2.2.2.1 + 1)), .int (zI S.2.2.2.2)]) e0 (show 6 < 8 by omega) rfl) ?_
  have e1 := ARR_ne (e := .inr (3, [.ref cl, .ref (a + 3), .ref (a + 1), .ref (a + 2), .int (zI S.2.1.length), .int (zI S.2.2.1.length), .int (zI (S.2.2.2.1 + 1)), .int (zI S.2.2.2.2)])) e1 (show a + 1 ≠ a by omega)
  have e2 := ARR_ne (e := .inr (3, [.ref cl, .ref (a + 3), .ref (a + 1), .ref (a + 2), .int (zI S.2.1.length), .int (zI S.2.2.1.length), .int (zI (S.2.2.2.1 + 1)), .int (zI S.2.2.2.2)])) e2 (show a + 2 ≠ a by omega)
  have e3 := WRS_off e3 (OFF_up (OFF_refl (a) 1 h) (c := a) (e := .inr (3, [.ref cl, .ref (a + 3), .ref (a + 1), .ref (a + 2), .int (zI S.2.1.length), .int (zI S.2.2.1.length), .int (zI (S.2.2.2.1 + 1)), .int (zI S.2.2.2.2)])) (by omega)) (by omega)
  have e0 := hup_same h (a) (.inr (3, [.ref cl, .ref (a + 3), .ref (a + 1), .ref (a + 2), .int (zI S.2.1.length), .int (zI S.2.2.1.length), .int (zI (S.2.2.2.1 + 1)), .int (zI S.2.2.2.2)]))
  have g1 := OFF_up g0 (c := a) (e := .inr (3, [.ref cl, .ref (a + 3), .ref (a + 1), .ref (a + 2), .int (zI S.2.1.length), .int (zI S.2.2.1.length), .int (zI (S.2.2.2.1 + 1)), .int (zI S.2.2.2.2)])) (by omega)
  generalize hup h (a) _ = h11 at *
  refine wb (gR_e e0 rfl) ?_
  refine wb (gI_e e0 rfl) ?_
  refine wpb (X6_add_is e3 (S.2.2.2.1 + 1) p q v hl) ?_
  rintro h12 ⟨e3, k0⟩
  have e0 := (k0 (a) (by omega)).trans e0
  have e1 := (k0 (a + 1) (by omega)).trans e1
  have e2 := (k0 (a + 2) (by omega)).trans e2
  have g2 := OFF_trans g1 (OFF_wide k0 (by omega) : OFF a 8 _ _)
  exact wr ⟨⟨fe, fy, e0, e1, e2, e3, r1, r2, c1, c2⟩, g2⟩
theorem CLU_app {f : Nat → Int32} {l : List Int} (H : CLU f l) (x : Int) : CLU (upd f l.length (zI x)) (l ++ [x]) := by
  intro j hj
  rw [List.length_append, List.length_singleton] at hj
  by_cases c : j = l.length
  · subst c
    rw [iat_get (by rw [List.length_append, List.length_singleton]; omega)]
    unfold upd
    rw [if_pos rfl, List.getElem_append_right (Nat.le_refl _)]
    simp
  · unfold upd
    rw [if_neg c, H j (by omega), iat_get (by omega), iat_get (by rw [List.length_append, List.length_singleton]; omega), List.getElem_append_left (by omega)]
theorem X3_addEye_is {h : HP} {cl a cap : Nat} {S : SG} (e : STO h cl a cap S) (hl : S.2.2.1.length < 2) : WP (f_X3_addEye h a) (fun h' => STO h' cl a cap (S.1, S.2.1, S.2.2.1 ++ [S.2.2.2.1], S.2.2.2.1, S.2.2.2.2) ∧ OFF a 8 h h') := by
  obtain ⟨fe, fy, e0, e1, e2, e3, r1, r2, c1, c2⟩ := e
  have hL := WRS_len e3
  unfold f_X3_addEye b_X3_addEye_0
  have g0 := OFF_refl a 8 h
  refine wb (kO_e e0) ?_
  refine wb (gI_e e0 rfl) ?_
  refine wb (gR_e e0 rfl) ?_
  refine wb (aN_e e2) ?_
  refine wf (fun d => absurd ((zI_le (by omega)).mp d) (by omega)) ?_
  refine wb (gR_e e0 rfl) ?_
  refine wb (gI_e e0 rfl) ?_
  refine wb (gI_e e0 rfl) ?_
  refine wb (wI_e e2 (by omega)) ?_
  simp only [Int.toNat_natCast]
  have e0 := (hup_ne h (e := .inl (0, 2, .inl (upd fy S.2.2.1.length (zI S.2.2.2.1)))) (show a ≠ a + 2 by omega)).trans e0
  have e1 := ARR_ne (e := .inl (0, 2, .inl (upd fy S.2.2.1.length (zI S.2.2.2.1)))) e1 (show a + 1 ≠ a + 2 by omega)
  have e3 := WRS_off e3 (OFF_up (OFF_refl (a + 2) 1 h) (c := a + 2) (e := .inl (0, 2, .inl (upd fy S.2.2.1.length (zI S.2.2.2.1)))) (by omega)) (by omega)
  have e2 := ARR_eq h (a + 2) 2 (upd fy S.2.2.1.length (zI S.2.2.2.1))
  have g1 := OFF_up g0 (c := a + 2) (e := .inl (0, 2, .inl (upd fy S.2.2.1.length (zI S.2.2.2.1)))) (by omega)
  generalize hup h (a + 2) _ = h11 at *
  refine wb (gI_e e0 rfl) ?_
  simp only [zl1, zI_add]
  refine wb (pI_e2 (fs2 := [.ref cl, .ref (a + 3), .ref (a + 1), .ref (a + 2), .int (zI S.2.1.length), .int (zI (S.2.2.1.length + 1)), .int (zI S.2.2.2.1), .int (zI S.2.2.2.2)]) e0 (show 5 < 8 by omega) rfl) ?_
  have e1 := ARR_ne (e := .inr (3, [.ref cl, .ref (a + 3), .ref (a + 1), .ref (a + 2), .int (zI S.2.1.length), .int (zI (S.2.2.1.length + 1)), .int (zI S.2.2.2.1), .int (zI S.2.2.2.2)])) e1 (show a + 1 ≠ a by omega)
  have e2 := ARR_ne (e := .inr (3, [.ref cl, .ref (a + 3), .ref (a + 1), .ref (a + 2), .int (zI S.2.1.length), .int (zI (S.2.2.1.length + 1)), .int (zI S.2.2.2.1), .int (zI S.2.2.2.2)])) e2 (show a + 2 ≠ a by omega)
  have e3 := WRS_off e3 (OFF_up (OFF_refl (a) 1 h11) (c := a) (e := .inr (3, [.ref cl, .ref (a + 3), .ref (a + 1), .ref (a + 2), .int (zI S.2.1.length), .int (zI (S.2.2.1.length + 1)), .int (zI S.2.2.2.1), .int (zI S.2.2.2.2)])) (by omega)) (by omega)
  have e0 := hup_same h11 (a) (.inr (3, [.ref cl, .ref (a + 3), .ref (a + 1), .ref (a + 2), .int (zI S.2.1.length), .int (zI (S.2.2.1.length + 1)), .int (zI S.2.2.2.1), .int (zI S.2.2.2.2)]))
  have g2 := OFF_up g1 (c := a) (e := .inr (3, [.ref cl, .ref (a + 3), .ref (a + 1), .ref (a + 2), .int (zI S.2.1.length), .int (zI (S.2.2.1.length + 1)), .int (zI S.2.2.2.1), .int (zI S.2.2.2.2)])) (by omega)
  generalize hup h11 (a) _ = h12 at *
  refine wr ⟨⟨fe, _, ?_, e1, e2, e3, r1, ?_, c1, CLU_app c2 _⟩, g2⟩
  · rw [e0]
    simp
  · simp only [List.length_append, List.length_singleton]
    omega
