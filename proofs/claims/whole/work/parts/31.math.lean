/-! writes: number, first key, last key, value -/
abbrev WR := Int × Int × Int × Int
def wz : WR := (-1, -1, -1, 0)
/-- write j of a list -/
def wat (ws : List WR) (j : Int) : WR := if j < 0 then wz else ws.getD j.toNat wz
def wLen (ws : List WR) : Int := ws.length
/-- a truth as the machine has it -/
def tB (p : Prop) [Decidable p] : Int32 := if p then 1 else 0
theorem tB_1 {p : Prop} [Decidable p] (h : p) : tB p = 1 := if_pos h
theorem tB_0 {p : Prop} [Decidable p] (h : ¬ p) : tB p = 0 := if_neg h
theorem tB_z {p : Prop} [Decidable p] : tB p = 0 ↔ ¬ p := by
  unfold tB
  split <;> simp_all
theorem tB_c {p q : Prop} [Decidable p] [Decidable q] (h : p ↔ q) : tB p = tB q := by
  unfold tB
  simp only [h]
/-- an array of ints -/
def ARR (h : HP) (a n : Nat) (f : Nat → Int32) : Prop := h a = some (.inl (0, n, .inl f))
/-- a column of writes -/
def COLU (f : Nat → Int32) (ws : List WR) (g : WR → Int) : Prop := ∀ j : Nat, j < ws.length → f j = zI (g (wat ws j))
/-- a list of writes, as an object -/
def WRS (h : HP) (a cap : Nat) (ws : List WR) : Prop := ∃ f0 f1 f2 f3, h a = some (.inr (6, [.ref (a + 1), .ref (a + 2), .ref (a + 3), .ref (a + 4), .int (zI ws.length)])) ∧ ARR h (a + 1) cap f0 ∧ ARR h (a + 2) cap f1 ∧ ARR h (a + 3) cap f2 ∧ ARR h (a + 4) cap f3 ∧ ws.length ≤ cap ∧ cap < 1000 ∧ COLU f0 ws (·.1) ∧ COLU f1 ws (·.2.1) ∧ COLU f2 ws (·.2.2.1) ∧ COLU f3 ws (·.2.2.2)
theorem WRS_mv {h h' : HP} {a cap : Nat} {ws : List WR} (e : WRS h a cap ws) (k : ∀ b, a ≤ b → b < a + 5 → h' b = h b) : WRS h' a cap ws := by
  obtain ⟨f0, f1, f2, f3, e0, e1, e2, e3, e4, r⟩ := e
  exact ⟨f0, f1, f2, f3, (k _ (by omega) (by omega)).trans e0, (k _ (by omega) (by omega)).trans e1, (k _ (by omega) (by omega)).trans e2, (k _ (by omega) (by omega)).trans e3, (k _ (by omega) (by omega)).trans e4, r⟩
theorem WRS_off {h h' : HP} {a cap a' n' : Nat} {ws : List WR} (e : WRS h a cap ws) (k : OFF a' n' h h') (d : a + 5 ≤ a' ∨ a' + n' ≤ a) : WRS h' a cap ws :=
  WRS_mv e fun b h1 h2 => k b (by omega)
theorem WRS_len {h : HP} {a cap : Nat} {ws : List WR} (e : WRS h a cap ws) : ws.length ≤ cap ∧ cap < 1000 := by
  obtain ⟨f0, f1, f2, f3, e0, e1, e2, e3, e4, r, r2, _⟩ := e
  exact ⟨r, r2⟩
theorem wat_out {ws : List WR} {j : Int} (h : j < 0 ∨ (ws.length : Int) ≤ j) : wat ws j = wz := by
  unfold wat
  split
  · rfl
  · rw [List.getD_eq_getElem?_getD, List.getElem?_eq_none (by omega)]
    rfl
theorem wat_get {ws : List WR} {j : Nat} (h : j < ws.length) : wat ws j = ws[j] := by
  unfold wat
  rw [if_neg (by omega), Int.toNat_natCast, List.getD_eq_getElem?_getD, List.getElem?_eq_getElem h]
  rfl
theorem wat_mem {ws : List WR} {j : Int} (h : 0 ≤ j ∧ j < ws.length) : wat ws j ∈ ws := by
  have : wat ws (j.toNat : Nat) = ws[j.toNat] := wat_get (by omega)
  rw [show ((j.toNat : Nat) : Int) = j by omega] at this
  rw [this]
  exact List.getElem_mem _
theorem X6_size_is {h : HP} {a cap : Nat} {ws : List WR} (e : WRS h a cap ws) : f_X6_size h a = some (zI ws.length) := by
  obtain ⟨f0, f1, f2, f3, e0, e1, e2, e3, e4, r, r2, c0, c1, c2, c3⟩ := e
  unfold f_X6_size b_X6_size_0
  rw [kO_e e0, gI_e e0 rfl]
  rfl
theorem X6_numberAt_is {h : HP} {a cap : Nat} {ws : List WR} (e : WRS h a cap ws) {j : Int} (hj : -1000000 < j ∧ j < 1000000) : f_X6_numberAt h a (zI j) = some (zI (wat ws j).1) := by
  obtain ⟨f0, f1, f2, f3, e0, e1, e2, e3, e4, r, r2, c0, c1, c2, c3⟩ := e
  have hc : f_X6_numberAt h a (zI j) = b_X6_numberAt_0 h a (zI j) := by
    unfold f_X6_numberAt
    rw [kO_e e0]
    rfl
  rw [hc, b_X6_numberAt_0, gI_e e0 rfl]
  simp only [Option.bind_some, zl0, zl1, zI_neg]
  by_cases h1 : j < 0
  · rw [if_pos ((zI_lt (by omega)).mpr h1), wat_out (Or.inl h1)]
    rfl
  · rw [if_neg (fun d => h1 ((zI_lt (by omega)).mp d))]
    by_cases h2 : (ws.length : Int) ≤ j
    · rw [if_pos ((zI_le (by omega)).mpr h2), wat_out (Or.inr h2)]
      rfl
    · rw [if_neg (fun d => h2 ((zI_le (by omega)).mp d)), gR_e e0 rfl, Option.bind_some, aI_e e1 (by omega)]
      have := c0 j.toNat (by omega)
      rw [show ((j.toNat : Nat) : Int) = j by omega] at this
      rw [this]
      rfl
theorem X6_firstAt_is {h : HP} {a cap : Nat} {ws : List WR} (e : WRS h a cap ws) {j : Int} (hj : -1000000 < j ∧ j < 1000000) : f_X6_firstAt h a (zI j) = some (zI (wat ws j).2.1) := by
  obtain ⟨f0, f1, f2, f3, e0, e1, e2, e3, e4, r, r2, c0, c1, c2, c3⟩ := e
  have hc : f_X6_firstAt h a (zI j) = b_X6_firstAt_0 h a (zI j) := by
    unfold f_X6_firstAt
    rw [kO_e e0]
    rfl
  rw [hc, b_X6_firstAt_0, gI_e e0 rfl]
  simp only [Option.bind_some, zl0, zl1, zI_neg]
  by_cases h1 : j < 0
  · rw [if_pos ((zI_lt (by omega)).mpr h1), wat_out (Or.inl h1)]
    rfl
  · rw [if_neg (fun d => h1 ((zI_lt (by omega)).mp d))]
    by_cases h2 : (ws.length : Int) ≤ j
    · rw [if_pos ((zI_le (by omega)).mpr h2), wat_out (Or.inr h2)]
      rfl
    · rw [if_neg (fun d => h2 ((zI_le (by omega)).mp d)), gR_e e0 rfl, Option.bind_some, aI_e e2 (by omega)]
      have := c1 j.toNat (by omega)
      rw [show ((j.toNat : Nat) : Int) = j by omega] at this
      rw [this]
      rfl
theorem X6_lastAt_is {h : HP} {a cap : Nat} {ws : List WR} (e : WRS h a cap ws) {j : Int} (hj : -1000000 < j ∧ j < 1000000) : f_X6_lastAt h a (zI j) = some (zI (wat ws j).2.2.1) := by
  obtain ⟨f0, f1, f2, f3, e0, e1, e2, e3, e4, r, r2, c0, c1, c2, c3⟩ := e
  have hc : f_X6_lastAt h a (zI j) = b_X6_lastAt_0 h a (zI j) := by
    unfold f_X6_lastAt
    rw [kO_e e0]
    rfl
  rw [hc, b_X6_lastAt_0, gI_e e0 rfl]
  simp only [Option.bind_some, zl0, zl1, zI_neg]
  by_cases h1 : j < 0
  · rw [if_pos ((zI_lt (by omega)).mpr h1), wat_out (Or.inl h1)]
    rfl
  · rw [if_neg (fun d => h1 ((zI_lt (by omega)).mp d))]
    by_cases h2 : (ws.length : Int) ≤ j
    · rw [if_pos ((zI_le (by omega)).mpr h2), wat_out (Or.inr h2)]
      rfl
    · rw [if_neg (fun d => h2 ((zI_le (by omega)).mp d)), gR_e e0 rfl, Option.bind_some, aI_e e3 (by omega)]
      have := c2 j.toNat (by omega)
      rw [show ((j.toNat : Nat) : Int) = j by omega] at this
      rw [this]
      rfl
theorem X6_valueAt_is {h : HP} {a cap : Nat} {ws : List WR} (e : WRS h a cap ws) {j : Int} (hj : -1000000 < j ∧ j < 1000000) : f_X6_valueAt h a (zI j) = some (zI (wat ws j).2.2.2) := by
  obtain ⟨f0, f1, f2, f3, e0, e1, e2, e3, e4, r, r2, c0, c1, c2, c3⟩ := e
  have hc : f_X6_valueAt h a (zI j) = b_X6_valueAt_0 h a (zI j) := by
    unfold f_X6_valueAt
    rw [kO_e e0]
    rfl
  rw [hc, b_X6_valueAt_0, gI_e e0 rfl]
  simp only [Option.bind_some, zl0, zl1, zI_neg]
  by_cases h1 : j < 0
  · rw [if_pos ((zI_lt (by omega)).mpr h1), wat_out (Or.inl h1)]
    rfl
  · rw [if_neg (fun d => h1 ((zI_lt (by omega)).mp d))]
    by_cases h2 : (ws.length : Int) ≤ j
    · rw [if_pos ((zI_le (by omega)).mpr h2), wat_out (Or.inr h2)]
      rfl
    · rw [if_neg (fun d => h2 ((zI_le (by omega)).mp d)), gR_e e0 rfl, Option.bind_some, aI_e e4 (by omega)]
      have := c3 j.toNat (by omega)
      rw [show ((j.toNat : Nat) : Int) = j by omega] at this
      rw [this]
      rfl
theorem X6_isEntry_is {h : HP} {a cap : Nat} {ws : List WR} (e : WRS h a cap ws) {j : Int} (hj : -1000000 < j ∧ j < 1000000) (hv : ∀ w ∈ ws, 0 ≤ w.2.2.2 ∧ w.2.2.2 < 1000) : f_X6_isEntry h a (zI j) = some (tB (0 < (wat ws j).2.2.2)) := by
  obtain ⟨f0, f1, f2, f3, e0, e1, e2, e3, e4, r, r2, c0, c1, c2, c3⟩ := e
  have hc : f_X6_isEntry h a (zI j) = b_X6_isEntry_0 h a (zI j) := by
    unfold f_X6_isEntry
    rw [kO_e e0]
    rfl
  rw [hc, b_X6_isEntry_0, gI_e e0 rfl]
  simp only [Option.bind_some, zl0]
  by_cases h1 : j < 0
  · rw [if_pos ((zI_lt (by omega)).mpr h1), wat_out (Or.inl h1), tB_0 (by decide)]
    rfl
  · rw [if_neg (fun d => h1 ((zI_lt (by omega)).mp d))]
    by_cases h2 : (ws.length : Int) ≤ j
    · rw [if_pos ((zI_le (by omega)).mpr h2), wat_out (Or.inr h2), tB_0 (by decide)]
      rfl
    · rw [if_neg (fun d => h2 ((zI_le (by omega)).mp d)), gR_e e0 rfl, Option.bind_some, aI_e e4 (by omega)]
      have := c3 j.toNat (by omega)
      rw [show ((j.toNat : Nat) : Int) = j by omega] at this
      rw [this, Option.bind_some]
      have hb := hv _ (wat_mem (ws := ws) (j := j) (by omega))
      by_cases h3 : (wat ws j).2.2.2 ≤ 0
      · rw [if_pos ((zI_le (by omega)).mpr h3), tB_0 (by omega)]
        rfl
      · rw [if_neg (fun d => h3 ((zI_le (by omega)).mp d)), tB_1 (by omega)]
theorem X6_concerns_is {h : HP} {a cap : Nat} {ws : List WR} (e : WRS h a cap ws) {j k : Int} (hj : -1000000 < j ∧ j < 1000000) (hk : -1000000 < k ∧ k < 1000000) (hv : ∀ w ∈ ws, 0 ≤ w.2.1 ∧ w.2.1 < 1000 ∧ 0 ≤ w.2.2.1 ∧ w.2.2.1 < 1000) : f_X6_concerns h a (zI j) (zI k) = some (tB ((0 ≤ j ∧ j < ws.length) ∧ (wat ws j).2.1 ≤ k ∧ k ≤ (wat ws j).2.2.1)) := by
  obtain ⟨f0, f1, f2, f3, e0, e1, e2, e3, e4, r, r2, c0, c1, c2, c3⟩ := e
  have hc : f_X6_concerns h a (zI j) (zI k) = b_X6_concerns_0 h a (zI j) (zI k) := by
    unfold f_X6_concerns
    rw [kO_e e0]
    rfl
  rw [hc, b_X6_concerns_0, gI_e e0 rfl]
  simp only [Option.bind_some, zl0]
  by_cases h1 : j < 0
  · rw [if_pos ((zI_lt (by omega)).mpr h1), tB_0 (by omega)]
    rfl
  · rw [if_neg (fun d => h1 ((zI_lt (by omega)).mp d))]
    by_cases h2 : (ws.length : Int) ≤ j
    · rw [if_pos ((zI_le (by omega)).mpr h2), tB_0 (by omega)]
      rfl
    · rw [if_neg (fun d => h2 ((zI_le (by omega)).mp d)), gR_e e0 rfl, Option.bind_some, aI_e e2 (by omega)]
      have h5 := c1 j.toNat (by omega)
      have h6 := c2 j.toNat (by omega)
      rw [show ((j.toNat : Nat) : Int) = j by omega] at h5 h6
      rw [h5, Option.bind_some]
      have hb := hv _ (wat_mem (ws := ws) (j := j) (by omega))
      by_cases h3 : k < (wat ws j).2.1
      · rw [if_pos ((zI_lt (by omega)).mpr h3), tB_0 (by omega)]
        rfl
      · rw [if_neg (fun d => h3 ((zI_lt (by omega)).mp d)), gR_e e0 rfl, Option.bind_some, aI_e e3 (by omega), Option.bind_some, h6]
        by_cases h4 : (wat ws j).2.2.1 < k
        · rw [if_pos ((zI_lt (by omega)).mpr h4), tB_0 (by omega)]
          rfl
        · rw [if_neg (fun d => h4 ((zI_lt (by omega)).mp d)), tB_1 (by omega)]
