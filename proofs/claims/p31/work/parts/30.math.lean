def hle (h h' : HP) : Prop := ∀ a e, h a = some e → h' a = some e
def kCell (lo hi : Int64) : CE := .inr (2, [.long lo, .long hi])
def kLo (lo : Int64) (f l : Int32) : Int64 := if 64 ≤ f then lo else lo ||| ((jlshl (-1) f) &&& (jlushr (-1) (63 - (jmin l 63))))
def kHi (hi : Int64) (f l : Int32) : Int64 := if l < 64 then hi else hi ||| ((jlshl (-1) (jmax (f - 64) 0)) &&& (jlushr (-1) (127 - l)))
theorem hup_same (h : HP) (a : Nat) (e : CE) : hup h a e a = some e := by
  unfold hup
  rw [if_pos rfl]
theorem hup_ne (h : HP) {a b : Nat} (e : CE) (hb : b ≠ a) : hup h a e b = h b := by
  unfold hup
  rw [if_neg hb]
theorem hup_hup (h : HP) (a : Nat) (e e' : CE) : hup (hup h a e) a e' = hup h a e' := by
  funext b
  unfold hup
  split <;> rfl
theorem addRow_is {h : HP} {a : Nat} {lo hi : Int64} (ha : h a = some (kCell lo hi)) (f l : Int32) : f_X2_addRow h a f l = some (if (64 ≤ f ∧ l < 64) then h else hup h a (kCell (kLo lo f l) (kHi hi f l))) := by
  have hk : kO 2 h a = some () := by unfold kO; rw [ha]; rfl
  unfold f_X2_addRow
  rw [hk]
  show b_X2_addRow_0 a f l h = _
  unfold b_X2_addRow_0 b_X2_addRow_34 kLo kHi
  by_cases c1 : 64 ≤ f
  · rw [if_pos c1]
    by_cases c2 : l < 64
    · rw [if_pos c2, if_pos ⟨c1, c2⟩]
    · rw [if_neg c2, if_neg (fun z => c2 z.2)]
      simp [gL, pL, pV, ha, kCell, c1, c2]
  · rw [if_neg c1, if_neg (fun z => c1 z.1)]
    have g1 : gL 2 0 h a = some lo := by simp [gL, ha, kCell]
    rw [g1]
    simp only [Option.bind_some]
    have g2 : ∀ x, pL 2 0 h a x = some (hup h a (kCell x hi)) := fun x => by simp [pL, pV, ha, kCell]
    rw [g2]
    simp only [Option.bind_some]
    by_cases c2 : l < 64
    · rw [if_pos c2, if_neg c1, if_pos c2]
    · rw [if_neg c2, if_neg c1, if_neg c2]
      have g3 : ∀ x, gL 2 1 (hup h a (kCell x hi)) a = some hi := fun x => by simp [gL, hup_same, kCell]
      rw [g3]
      simp only [Option.bind_some]
      simp [pL, pV, hup_same, kCell, hup_hup]
def zI (z : Int) : Int32 := Int32.ofInt z
theorem zI_add (a b : Int) : zI a + zI b = zI (a + b) := (Int32.ofInt_add a b).symm
theorem zI_sub (a b : Int) : zI a - zI b = zI (a - b) := (Int32.ofInt_sub a b).symm
theorem zI_mul (a b : Int) : zI a * zI b = zI (a * b) := (Int32.ofInt_mul a b).symm
theorem zI_neg (a : Int) : - zI a = zI (- a) := (Int32.ofInt_neg a).symm
theorem zI_toInt {a : Int} (h : -2147483648 ≤ a ∧ a < 2147483648) : (zI a).toInt = a := Int32.toInt_ofInt_of_le (by omega) (by omega)
theorem zI_lt {a b : Int} (h : (-2147483648 ≤ a ∧ a < 2147483648) ∧ -2147483648 ≤ b ∧ b < 2147483648) : zI a < zI b ↔ a < b := by
  rw [Int32.lt_iff_toInt_lt, zI_toInt h.1, zI_toInt h.2]
theorem zI_le {a b : Int} (h : (-2147483648 ≤ a ∧ a < 2147483648) ∧ -2147483648 ≤ b ∧ b < 2147483648) : zI a ≤ zI b ↔ a ≤ b := by
  rw [Int32.le_iff_toInt_le, zI_toInt h.1, zI_toInt h.2]
theorem zI_inj {a b : Int} (h : (-2147483648 ≤ a ∧ a < 2147483648) ∧ -2147483648 ≤ b ∧ b < 2147483648) : zI a = zI b ↔ a = b := by
  rw [← Int32.toInt_inj, zI_toInt h.1, zI_toInt h.2]
theorem zI_clamp {a : Int} (h : 0 ≤ a ∧ a < 2147483648) : (zI a).toNatClampNeg = a.toNat := Int32.toNatClampNeg_ofInt_of_le (by omega) (by omega)
theorem zI_of (x : Int32) : x = zI x.toInt := (Int32.ofInt_toInt x).symm
theorem zI_rng (x : Int32) : -2147483648 ≤ x.toInt ∧ x.toInt < 2147483648 := ⟨Int32.le_toInt x, Int32.toInt_lt x⟩
theorem zl0 : (0 : Int32) = zI 0 := by decide
theorem zl1 : (1 : Int32) = zI 1 := by decide
theorem zln (n : Nat) : Int32.ofNat n = zI n := Int32.ofInt_eq_ofNat.symm
theorem zI_nat (n : Nat) : nI n = zI n := Int32.ofInt_eq_ofNat.symm
theorem zI_in {a : Int} {n : Nat} (h : 0 ≤ a ∧ a < n ∧ (n : Int) < 2147483648) : vp_in (zI a) n := vp_in_iff.mpr (by rw [zI_toInt (by omega)]; omega)
theorem zI_jmax {a b : Int} (h : (-2147483648 ≤ a ∧ a < 2147483648) ∧ -2147483648 ≤ b ∧ b < 2147483648) : jmax (zI a) (zI b) = zI (max a b) := by
  unfold jmax
  by_cases c : a < b
  · rw [if_pos ((zI_lt h).mpr c)]
    exact congrArg zI (by omega)
  · rw [if_neg (fun d => c ((zI_lt h).mp d))]
    exact congrArg zI (by omega)
theorem zI_jmin {a b : Int} (h : (-2147483648 ≤ a ∧ a < 2147483648) ∧ -2147483648 ≤ b ∧ b < 2147483648) : jmin (zI a) (zI b) = zI (min a b) := by
  unfold jmin
  by_cases c : b < a
  · rw [if_pos ((zI_lt (by omega)).mpr c)]
    exact congrArg zI (by omega)
  · rw [if_neg (fun d => c ((zI_lt (by omega)).mp d))]
    exact congrArg zI (by omega)
theorem kO_e {ci : Nat} {h : HP} {a : Nat} {fs : List Value} (e : h a = some (.inr (ci, fs))) : kO ci h a = some () := by
  unfold kO
  rw [e]
  simp
theorem gI_e {ci k : Nat} {h : HP} {a : Nat} {fs : List Value} {x : Int32} (e : h a = some (.inr (ci, fs))) (ek : fs[k]? = some (.int x)) : gI ci k h a = some x := by
  unfold gI
  rw [e]
  simp [ek]
theorem gL_e {ci k : Nat} {h : HP} {a : Nat} {fs : List Value} {x : Int64} (e : h a = some (.inr (ci, fs))) (ek : fs[k]? = some (.long x)) : gL ci k h a = some x := by
  unfold gL
  rw [e]
  simp [ek]
theorem gR_e {ci k : Nat} {h : HP} {a : Nat} {fs : List Value} {x : Nat} (e : h a = some (.inr (ci, fs))) (ek : fs[k]? = some (.ref x)) : gR ci k h a = some x := by
  unfold gR
  rw [e]
  simp [ek]
theorem aI_e {h : HP} {a n : Nat} {f : Nat → Int32} {z : Int} (e : h a = some (.inl (0, n, .inl f))) (hz : 0 ≤ z ∧ z < n ∧ (n : Int) < 2147483648) : aI h a (zI z) = some (f z.toNat) := by
  have h1 := zI_in hz
  unfold aI
  rw [e]
  simp only [if_true]
  rw [if_neg h1, zI_clamp (by omega)]
theorem aN_e {h : HP} {a n : Nat} {f : Nat → Int32} (e : h a = some (.inl (0, n, .inl f))) : aN h a = some (zI n) := by
  unfold aN
  rw [e]
  simp [zln]
theorem pI_e {ci k : Nat} {h : HP} {a : Nat} {fs : List Value} {x : Int32} (e : h a = some (.inr (ci, fs))) (ek : k < fs.length) : pI ci k h a x = some (hup h a (.inr (ci, fs.set k (.int x)))) := by
  unfold pI pV
  rw [e]
  simp [ek]
theorem pI_e2 {ci k : Nat} {h : HP} {a : Nat} {fs fs2 : List Value} {x : Int32} (e : h a = some (.inr (ci, fs))) (ek : k < fs.length) (es : fs.set k (.int x) = fs2) : pI ci k h a x = some (hup h a (.inr (ci, fs2))) := by
  rw [← es]
  exact pI_e e ek
theorem wI_e {h : HP} {a n : Nat} {f : Nat → Int32} {z : Int} {x : Int32} (e : h a = some (.inl (0, n, .inl f))) (hz : 0 ≤ z ∧ z < n ∧ (n : Int) < 2147483648) : wI h a (zI z) x = some (hup h a (.inl (0, n, .inl (upd f z.toNat x)))) := by
  have h1 := zI_in hz
  unfold wI
  rw [e]
  simp only [if_true]
  rw [if_neg h1, zI_clamp (by omega)]
def WP {α : Type} (o : Option α) (P : α → Prop) : Prop := ∃ r, o = some r ∧ P r
theorem wb {α β : Type} {o : Option α} {f : α → Option β} {x : α} {P : β → Prop} (e : o = some x) (k : WP (f x) P) : WP (o.bind f) P := by
  rw [e]
  exact k
theorem wpb {α β : Type} {o : Option α} {f : α → Option β} {R : α → Prop} {P : β → Prop} (e : WP o R) (k : ∀ x, R x → WP (f x) P) : WP (o.bind f) P := by
  obtain ⟨x, e, hx⟩ := e
  rw [e]
  exact k x hx
theorem wr {α : Type} {r : α} {P : α → Prop} (h : P r) : WP (some r) P := ⟨r, rfl, h⟩
theorem wt {α : Type} {c : Prop} [Decidable c] {A B : Option α} {P : α → Prop} (hc : c) (h : WP A P) : WP (if c then A else B) P := by rw [if_pos hc]; exact h
theorem wf {α : Type} {c : Prop} [Decidable c] {A B : Option α} {P : α → Prop} (hc : ¬ c) (h : WP B P) : WP (if c then A else B) P := by rw [if_neg hc]; exact h
theorem wm {α : Type} {o : Option α} {P R : α → Prop} (e : WP o P) (k : ∀ x, P x → R x) : WP o R := by
  obtain ⟨x, e, hx⟩ := e
  exact ⟨x, e, k x hx⟩
theorem weq {α : Type} {o : Option α} {x : α} {P : α → Prop} (e : o = some x) (h : P x) : WP o P := ⟨x, e, h⟩
def OFF (a n : Nat) (h h' : HP) : Prop := ∀ b, b < a ∨ a + n ≤ b → h' b = h b
theorem OFF_refl (a n : Nat) (h : HP) : OFF a n h h := fun _ _ => rfl
theorem OFF_trans {a n : Nat} {h h' h'' : HP} (e : OFF a n h h') (e' : OFF a n h' h'') : OFF a n h h'' := fun b hb => (e' b hb).trans (e b hb)
theorem OFF_up {a n : Nat} {h h' : HP} {c : Nat} {e : CE} (g : OFF a n h h') (hc : a ≤ c ∧ c < a + n) : OFF a n h (hup h' c e) := fun b hb => (hup_ne _ _ (by omega)).trans (g b hb)
theorem OFF_wide {a n a' n' : Nat} {h h' : HP} (g : OFF a n h h') (hc : a' ≤ a ∧ a + n ≤ a' + n') : OFF a' n' h h' := fun b hb => g b (by omega)
abbrev WR := Int × Int × Int × Int
def wz : WR := (-1, -1, -1, 0)
def wat (ws : List WR) (j : Int) : WR := if j < 0 then wz else ws.getD j.toNat wz
def tB (p : Prop) [Decidable p] : Int32 := if p then 1 else 0
theorem tB_1 {p : Prop} [Decidable p] (h : p) : tB p = 1 := if_pos h
theorem tB_0 {p : Prop} [Decidable p] (h : ¬ p) : tB p = 0 := if_neg h
theorem tB_z {p : Prop} [Decidable p] : tB p = 0 ↔ ¬ p := by
  unfold tB
  split <;> simp_all
theorem tB_c {p q : Prop} [Decidable p] [Decidable q] (h : p ↔ q) : tB p = tB q := by
  unfold tB
  simp only [h]
def ARR (h : HP) (a n : Nat) (f : Nat → Int32) : Prop := h a = some (.inl (0, n, .inl f))
def COLU (f : Nat → Int32) (ws : List WR) (g : WR → Int) : Prop := ∀ j : Nat, j < ws.length → f j = zI (g (wat ws j))
def WRS (h : HP) (a cap : Nat) (ws : List WR) : Prop := ∃ f0 f1 f2 f3, h a = some (.inr (6, [.ref (a + 1), .ref (a + 2), .ref (a + 3), .ref (a + 4), .int (zI ws.length)])) ∧ ARR h (a + 1) cap f0 ∧ ARR h (a + 2) cap f1 ∧ ARR h (a + 3) cap f2 ∧ ARR h (a + 4) cap f3 ∧ ws.length ≤ cap ∧ cap < 1000 ∧ COLU f0 ws (·.1) ∧ COLU f1 ws (·.2.1) ∧ COLU f2 ws (·.2.2.1) ∧ COLU f3 ws (·.2.2.2)
theorem WRS_mv {h h' : HP} {a cap : Nat} {ws : List WR} (e : WRS h a cap ws) (k : ∀ b, a ≤ b → b < a + 5 → h' b = h b) : WRS h' a cap ws := by
  obtain ⟨f0, f1, f2, f3, e0, e1, e2, e3, e4, r⟩ := e
  exact ⟨f0, f1, f2, f3, (k _ (by omega) (by omega)).trans e0, (k _ (by omega) (by omega)).trans e1, (k _ (by omega) (by omega)).trans e2, (k _ (by omega) (by omega)).trans e3, (k _ (by omega) (by omega)).trans e4, r⟩
theorem WRS_off {h h' : HP} {a cap a' n' : Nat} {ws : List WR} (e : WRS h a cap ws) (k : OFF a' n' h h') (d : a + 5 ≤ a' ∨ a' + n' ≤ a) : WRS h' a cap ws :=
  WRS_mv e fun b h1 h2 => k b (by omega)
theorem WRS_len {h : HP} {a cap : Nat} {ws : List WR} (e : WRS h a cap ws) : ws.length ≤ cap ∧ cap < 1000 := by
  obtain ⟨f0, f1, f2, f3, e0, e1, e2, e3, e4, r, r2, _⟩ := e
  exact ⟨r, r2⟩
theorem wat_out {ws : List WR} {j : Int} (h : j < 0 ∨ (ws.length : Int) ≤ j) : wat ws j = wz := by
  unfold wat
  split
  · rfl
  · rw [List.getD_eq_getElem?_getD, List.getElem?_eq_none (by omega)]
    rfl
theorem wat_get {ws : List WR} {j : Nat} (h : j < ws.length) : wat ws j = ws[j] := by
  unfold wat
  rw [if_neg (by omega), Int.toNat_natCast, List.getD_eq_getElem?_getD, List.getElem?_eq_getElem h]
  rfl
theorem wat_mem {ws : List WR} {j : Int} (h : 0 ≤ j ∧ j < ws.length) : wat ws j ∈ ws := by
  have : wat ws (j.toNat : Nat) = ws[j.toNat] := wat_get (by omega)
  rw [show ((j.toNat : Nat) : Int) = j by omega] at this
  rw [this]
  exact List.getElem_mem _
theorem X6_size_is {h : HP} {a cap : Nat} {ws : List WR} (e : WRS h a cap ws) : f_X6_size h a = some (zI ws.length) := by
  obtain ⟨f0, f1, f2, f3, e0, e1, e2, e3, e4, r, r2, c0, c1, c2, c3⟩ := e
  unfold f_X6_size b_X6_size_0
  rw [kO_e e0, gI_e e0 rfl]
  rfl
theorem X6_numberAt_is {h : HP} {a cap : Nat} {ws : List WR} (e : WRS h a cap ws) {j : Int} (hj : -1000000 < j ∧ j < 1000000) : f_X6_numberAt h a (zI j) = some (zI (wat ws j).1) := by
  obtain ⟨f0, f1, f2, f3, e0, e1, e2, e3, e4, r, r2, c0, c1, c2, c3⟩ := e
  have hc : f_X6_numberAt h a (zI j) = b_X6_numberAt_0 h a (zI j) := by
    unfold f_X6_numberAt
    rw [kO_e e0]
    rfl
  rw [hc, b_X6_numberAt_0, gI_e e0 rfl]
  simp only [Option.bind_some, zl0, zl1, zI_neg]
  by_cases h1 : j < 0
  · rw [if_pos ((zI_lt (by omega)).mpr h1), wat_out (Or.inl h1)]
    rfl
  · rw [if_neg (fun d => h1 ((zI_lt (by omega)).mp d))]
    by_cases h2 : (ws.length : Int) ≤ j
    · rw [if_pos ((zI_le (by omega)).mpr h2), wat_out (Or.inr h2)]
      rfl
    · rw [if_neg (fun d => h2 ((zI_le (by omega)).mp d)), gR_e e0 rfl, Option.bind_some, aI_e e1 (by omega)]
      have := c0 j.toNat (by omega)
      rw [show ((j.toNat : Nat) : Int) = j by omega] at this
      rw [this]
      rfl
theorem X6_firstAt_is {h : HP} {a cap : Nat} {ws : List WR} (e : WRS h a cap ws) {j : Int} (hj : -1000000 < j ∧ j < 1000000) : f_X6_firstAt h a (zI j) = some (zI (wat ws j).2.1) := by
  obtain ⟨f0, f1, f2, f3, e0, e1, e2, e3, e4, r, r2, c0, c1, c2, c3⟩ := e
  have hc : f_X6_firstAt h a (zI j) = b_X6_firstAt_0 h a (zI j) := by
    unfold f_X6_firstAt
    rw [kO_e e0]
    rfl
  rw [hc, b_X6_firstAt_0, gI_e e0 rfl]
  simp only [Option.bind_some, zl0, zl1, zI_neg]
  by_cases h1 : j < 0
  · rw [if_pos ((zI_lt (by omega)).mpr h1), wat_out (Or.inl h1)]
    rfl
  · rw [if_neg (fun d => h1 ((zI_lt (by omega)).mp d))]
    by_cases h2 : (ws.length : Int) ≤ j
    · rw [if_pos ((zI_le (by omega)).mpr h2), wat_out (Or.inr h2)]
      rfl
    · rw [if_neg (fun d => h2 ((zI_le (by omega)).mp d)), gR_e e0 rfl, Option.bind_some, aI_e e2 (by omega)]
      have := c1 j.toNat (by omega)
      rw [show ((j.toNat : Nat) : Int) = j by omega] at this
      rw [this]
      rfl
theorem X6_lastAt_is {h : HP} {a cap : Nat} {ws : List WR} (e : WRS h a cap ws) {j : Int} (hj : -1000000 < j ∧ j < 1000000) : f_X6_lastAt h a (zI j) = some (zI (wat ws j).2.2.1) := by
  obtain ⟨f0, f1, f2, f3, e0, e1, e2, e3, e4, r, r2, c0, c1, c2, c3⟩ := e
  have hc : f_X6_lastAt h a (zI j) = b_X6_lastAt_0 h a (zI j) := by
    unfold f_X6_lastAt
    rw [kO_e e0]
    rfl
  rw [hc, b_X6_lastAt_0, gI_e e0 rfl]
  simp only [Option.bind_some, zl0, zl1, zI_neg]
  by_cases h1 : j < 0
  · rw [if_pos ((zI_lt (by omega)).mpr h1), wat_out (Or.inl h1)]
    rfl
  · rw [if_neg (fun d => h1 ((zI_lt (by omega)).mp d))]
    by_cases h2 : (ws.length : Int) ≤ j
    · rw [if_pos ((zI_le (by omega)).mpr h2), wat_out (Or.inr h2)]
      rfl
    · rw [if_neg (fun d => h2 ((zI_le (by omega)).mp d)), gR_e e0 rfl, Option.bind_some, aI_e e3 (by omega)]
      have := c2 j.toNat (by omega)
      rw [show ((j.toNat : Nat) : Int) = j by omega] at this
      rw [this]
      rfl
theorem X6_valueAt_is {h : HP} {a cap : Nat} {ws : List WR} (e : WRS h a cap ws) {j : Int} (hj : -1000000 < j ∧ j < 1000000) : f_X6_valueAt h a (zI j) = some (zI (wat ws j).2.2.2) := by
  obtain ⟨f0, f1, f2, f3, e0, e1, e2, e3, e4, r, r2, c0, c1, c2, c3⟩ := e
  have hc : f_X6_valueAt h a (zI j) = b_X6_valueAt_0 h a (zI j) := by
    unfold f_X6_valueAt
    rw [kO_e e0]
    rfl
  rw [hc, b_X6_valueAt_0, gI_e e0 rfl]
  simp only [Option.bind_some, zl0, zl1, zI_neg]
  by_cases h1 : j < 0
  · rw [if_pos ((zI_lt (by omega)).mpr h1), wat_out (Or.inl h1)]
    rfl
  · rw [if_neg (fun d => h1 ((zI_lt (by omega)).mp d))]
    by_cases h2 : (ws.length : Int) ≤ j
    · rw [if_pos ((zI_le (by omega)).mpr h2), wat_out (Or.inr h2)]
      rfl
    · rw [if_neg (fun d => h2 ((zI_le (by omega)).mp d)), gR_e e0 rfl, Option.bind_some, aI_e e4 (by omega)]
      have := c3 j.toNat (by omega)
      rw [show ((j.toNat : Nat) : Int) = j by omega] at this
      rw [this]
      rfl
theorem X6_isEntry_is {h : HP} {a cap : Nat} {ws : List WR} (e : WRS h a cap ws) {j : Int} (hj : -1000000 < j ∧ j < 1000000) (hv : ∀ w ∈ ws, 0 ≤ w.2.2.2 ∧ w.2.2.2 < 1000) : f_X6_isEntry h a (zI j) = some (tB (0 < (wat ws j).2.2.2)) := by
  obtain ⟨f0, f1, f2, f3, e0, e1, e2, e3, e4, r, r2, c0, c1, c2, c3⟩ := e
  have hc : f_X6_isEntry h a (zI j) = b_X6_isEntry_0 h a (zI j) := by
    unfold f_X6_isEntry
    rw [kO_e e0]
    rfl
  rw [hc, b_X6_isEntry_0, gI_e e0 rfl]
  simp only [Option.bind_some, zl0]
  by_cases h1 : j < 0
  · rw [if_pos ((zI_lt (by omega)).mpr h1), wat_out (Or.inl h1), tB_0 (by decide)]
    rfl
  · rw [if_neg (fun d => h1 ((zI_lt (by omega)).mp d))]
    by_cases h2 : (ws.length : Int) ≤ j
    · rw [if_pos ((zI_le (by omega)).mpr h2), wat_out (Or.inr h2), tB_0 (by decide)]
      rfl
    · rw [if_neg (fun d => h2 ((zI_le (by omega)).mp d)), gR_e e0 rfl, Option.bind_some, aI_e e4 (by omega)]
      have := c3 j.toNat (by omega)
      rw [show ((j.toNat : Nat) : Int) = j by omega] at this
      rw [this, Option.bind_some]
      have hb := hv _ (wat_mem (ws := ws) (j := j) (by omega))
      by_cases h3 : (wat ws j).2.2.2 ≤ 0
      · rw [if_pos ((zI_le (by omega)).mpr h3), tB_0 (by omega)]
        rfl
      · rw [if_neg (fun d => h3 ((zI_le (by omega)).mp d)), tB_1 (by omega)]
theorem X6_concerns_is {h : HP} {a cap : Nat} {ws : List WR} (e : WRS h a cap ws) {j k : Int} (hj : -1000000 < j ∧ j < 1000000) (hk : -1000000 < k ∧ k < 1000000) (hv : ∀ w ∈ ws, 0 ≤ w.2.1 ∧ w.2.1 < 1000 ∧ 0 ≤ w.2.2.1 ∧ w.2.2.1 < 1000) : f_X6_concerns h a (zI j) (zI k) = some (tB ((0 ≤ j ∧ j < ws.length) ∧ (wat ws j).2.1 ≤ k ∧ k ≤ (wat ws j).2.2.1)) := by
  obtain ⟨f0, f1, f2, f3, e0, e1, e2, e3, e4, r, r2, c0, c1, c2, c3⟩ := e
  have hc : f_X6_concerns h a (zI j) (zI k) = b_X6_concerns_0 h a (zI j) (zI k) := by
    unfold f_X6_concerns
    rw [kO_e e0]
    rfl
  rw [hc, b_X6_concerns_0, gI_e e0 rfl]
  simp only [Option.bind_some, zl0]
  by_cases h1 : j < 0
  · rw [if_pos ((zI_lt (by omega)).mpr h1), tB_0 (by omega)]
    rfl
  · rw [if_neg (fun d => h1 ((zI_lt (by omega)).mp d))]
    by_cases h2 : (ws.length : Int) ≤ j
    · rw [if_pos ((zI_le (by omega)).mpr h2), tB_0 (by omega)]
      rfl
    · rw [if_neg (fun d => h2 ((zI_le (by omega)).mp d)), gR_e e0 rfl, Option.bind_some, aI_e e2 (by omega)]
      have h5 := c1 j.toNat (by omega)
      have h6 := c2 j.toNat (by omega)
      rw [show ((j.toNat : Nat) : Int) = j by omega] at h5 h6
      rw [h5, Option.bind_some]
      have hb := hv _ (wat_mem (ws := ws) (j := j) (by omega))
      by_cases h3 : k < (wat ws j).2.1
      · rw [if_pos ((zI_lt (by omega)).mpr h3), tB_0 (by omega)]
        rfl
      · rw [if_neg (fun d => h3 ((zI_lt (by omega)).mp d)), gR_e e0 rfl, Option.bind_some, aI_e e3 (by omega), Option.bind_some, h6]
        by_cases h4 : (wat ws j).2.2.1 < k
        · rw [if_pos ((zI_lt (by omega)).mpr h4), tB_0 (by omega)]
          rfl
        · rw [if_neg (fun d => h4 ((zI_lt (by omega)).mp d)), tB_1 (by omega)]
theorem cI_e {h : HP} {a0 a n0 n1 : Nat} {f g : Nat → Int32} {sp dp n : Int} (e0 : ARR h a0 n0 f) (e1 : ARR h a n1 g) (hz : 0 ≤ sp ∧ 0 ≤ dp ∧ 0 ≤ n ∧ sp + n ≤ n0 ∧ dp + n ≤ n1 ∧ (n0 : Int) < 2147483648 ∧ (n1 : Int) < 2147483648) : cI h a0 (zI sp) a (zI dp) (zI n) = some (hup h a (.inl (0, n1, .inl (va_cpy f g sp.toNat dp.toNat n.toNat)))) := by
  unfold cI
  rw [e0]
  simp only []
  rw [e1]
  simp only []
  rw [zI_clamp (by omega), zI_clamp (by omega), zI_clamp (by omega)]
  rw [if_neg]
  simp only [zl0]
  rw [zI_lt (by omega), zI_lt (by omega), zI_lt (by omega)]
  omega
theorem ARR_ne {h : HP} {a b n : Nat} {f : Nat → Int32} {e : CE} (H : ARR h a n f) (hb : a ≠ b) : ARR (hup h b e) a n f := (hup_ne _ _ hb).trans H
theorem ARR_eq (h : HP) (a n : Nat) (f : Nat → Int32) : ARR (hup h a (.inl (0, n, .inl f))) a n f := hup_same _ _ _
theorem COLU_app {f : Nat → Int32} {ws : List WR} {g : WR → Int} (H : COLU f ws g) (w : WR) : COLU (upd f ws.length (zI (g w))) (ws ++ [w]) g := by
  intro j hj
  rw [List.length_append, List.length_singleton] at hj
  by_cases c : j = ws.length
  · subst c
    rw [wat_get (by rw [List.length_append, List.length_singleton]; omega)]
    unfold upd
    rw [if_pos rfl, List.getElem_append_right (Nat.le_refl _)]
    simp
  · unfold upd
    rw [if_neg c, H j (by omega), wat_get (by omega), wat_get (by rw [List.length_append, List.length_singleton]; omega), List.getElem_append_left (by omega)]
theorem X6_add_is {h : HP} {a cap : Nat} {ws : List WR} (e : WRS h a cap ws) (n f t v : Int) (hl : ws.length < cap) : WP (f_X6_add h a (zI n) (zI f) (zI t) (zI v)) (fun h' => WRS h' a cap (ws ++ [(n, f, t, v)]) ∧ OFF a 5 h h') := by
  obtain ⟨f0, f1, f2, f3, e0, e1, e2, e3, e4, r, r2, c0, c1, c2, c3⟩ := e
  unfold f_X6_add b_X6_add_0
  refine wb (kO_e e0) ?_
  refine wb (gI_e e0 rfl) ?_
  refine wb (gR_e e0 rfl) ?_
  refine wb (aN_e e1) ?_
  refine wf (fun d => absurd ((zI_le (by omega)).mp d) (by omega)) ?_
  refine wb (gR_e e0 rfl) ?_
  refine wb (gI_e e0 rfl) ?_
  refine wb (wI_e e1 (by omega)) ?_
  have e0 := (hup_ne h (e := .inl (0, cap, .inl (upd f0 (ws.length : Int).toNat (zI n)))) (show a ≠ a + 1 by omega)).trans e0
  have e2 := ARR_ne (e := .inl (0, cap, .inl (upd f0 (ws.length : Int).toNat (zI n)))) e2 (show a + 2 ≠ a + 1 by omega)
  have e3 := ARR_ne (e := .inl (0, cap, .inl (upd f0 (ws.length : Int).toNat (zI n)))) e3 (show a + 3 ≠ a + 1 by omega)
  have e4 := ARR_ne (e := .inl (0, cap, .inl (upd f0 (ws.length : Int).toNat (zI n)))) e4 (show a + 4 ≠ a + 1 by omega)
  have e1 := ARR_eq h (a + 1) cap (upd f0 (ws.length : Int).toNat (zI n))
  have g1 := OFF_up (OFF_refl a 5 h) (c := a + 1) (e := .inl (0, cap, .inl (upd f0 (ws.length : Int).toNat (zI n)))) (by omega)
  generalize hup h (a + 1) _ = h1 at *
  refine wb (gR_e e0 rfl) ?_
  refine wb (gI_e e0 rfl) ?_
  refine wb (wI_e e2 (by omega)) ?_
  have e0 := (hup_ne h1 (e := .inl (0, cap, .inl (upd f1 (ws.length : Int).toNat (zI f)))) (show a ≠ a + 2 by omega)).trans e0
  have e1 := ARR_ne (e := .inl (0, cap, .inl (upd f1 (ws.length : Int).toNat (zI f)))) e1 (show a + 1 ≠ a + 2 by omega)
  have e3 := ARR_ne (e := .inl (0, cap, .inl (upd f1 (ws.length : Int).toNat (zI f)))) e3 (show a + 3 ≠ a + 2 by omega)
  have e4 := ARR_ne (e := .inl (0, cap, .inl (upd f1 (ws.length : Int).toNat (zI f)))) e4 (show a + 4 ≠ a + 2 by omega)
  have e2 := ARR_eq h1 (a + 2) cap (upd f1 (ws.length : Int).toNat (zI f))
  have g2 := OFF_up g1 (c := a + 2) (e := .inl (0, cap, .inl (upd f1 (ws.length : Int).toNat (zI f)))) (by omega)
  generalize hup h1 (a + 2) _ = h2 at *
  refine wb (gR_e e0 rfl) ?_
  refine wb (gI_e e0 rfl) ?_
  refine wb (wI_e e3 (by omega)) ?_
  have e0 := (hup_ne h2 (e := .inl (0, cap, .inl (upd f2 (ws.length : Int).toNat (zI t)))) (show a ≠ a + 3 by omega)).trans e0
  have e1 := ARR_ne (e := .inl (0, cap, .inl (upd f2 (ws.length : Int).toNat (zI t)))) e1 (show a + 1 ≠ a + 3 by omega)
  have e2 := ARR_ne (e := .inl (0, cap, .inl (upd f2 (ws.length : Int).toNat (zI t)))) e2 (show a + 2 ≠ a + 3 by omega)
  have e4 := ARR_ne (e := .inl (0, cap, .inl (upd f2 (ws.length : Int).toNat (zI t)))) e4 (show a + 4 ≠ a + 3 by omega)
  have e3 := ARR_eq h2 (a + 3) cap (upd f2 (ws.length : Int).toNat (zI t))
  have g3 := OFF_up g2 (c := a + 3) (e := .inl (0, cap, .inl (upd f2 (ws.length : Int).toNat (zI t)))) (by omega)
  generalize hup h2 (a + 3) _ = h3 at *
  refine wb (gR_e e0 rfl) ?_
  refine wb (gI_e e0 rfl) ?_
  refine wb (wI_e e4 (by omega)) ?_
  have e0 := (hup_ne h3 (e := .inl (0, cap, .inl (upd f3 (ws.length : Int).toNat (zI v)))) (show a ≠ a + 4 by omega)).trans e0
  have e1 := ARR_ne (e := .inl (0, cap, .inl (upd f3 (ws.length : Int).toNat (zI v)))) e1 (show a + 1 ≠ a + 4 by omega)
  have e2 := ARR_ne (e := .inl (0, cap, .inl (upd f3 (ws.length : Int).toNat (zI v)))) e2 (show a + 2 ≠ a + 4 by omega)
  have e3 := ARR_ne (e := .inl (0, cap, .inl (upd f3 (ws.length : Int).toNat (zI v)))) e3 (show a + 3 ≠ a + 4 by omega)
  have e4 := ARR_eq h3 (a + 4) cap (upd f3 (ws.length : Int).toNat (zI v))
  have g4 := OFF_up g3 (c := a + 4) (e := .inl (0, cap, .inl (upd f3 (ws.length : Int).toNat (zI v)))) (by omega)
  generalize hup h3 (a + 4) _ = h4 at *
  refine wb (gI_e e0 rfl) ?_
  refine wb (pI_e e0 (show 4 < 5 by omega)) ?_
  refine wr ⟨?_, OFF_up g4 (by omega)⟩
  simp only [zl1, zI_add, List.set_cons_succ, List.set_cons_zero, Int.toNat_natCast] at *
  refine ⟨upd f0 ws.length (zI n), upd f1 ws.length (zI f), upd f2 ws.length (zI t), upd f3 ws.length (zI v), (hup_same _ _ _).trans ?_, ARR_ne e1 (by omega), ARR_ne e2 (by omega), ARR_ne e3 (by omega), ARR_ne e4 (by omega), ?_, r2, COLU_app c0 (n, f, t, v), COLU_app c1 (n, f, t, v), COLU_app c2 (n, f, t, v), COLU_app c3 (n, f, t, v)⟩
  · rw [List.length_append, List.length_singleton]
    rfl
  · rw [List.length_append, List.length_singleton]
    omega
theorem X6_empty_is {h : HP} {a cap : Nat} {ws : List WR} (e : WRS h a cap ws) : WP (f_X6_empty h a) (fun h' => WRS h' a cap [] ∧ OFF a 5 h h') := by
  obtain ⟨f0, f1, f2, f3, e0, e1, e2, e3, e4, r, r2, c0, c1, c2, c3⟩ := e
  unfold f_X6_empty b_X6_empty_0
  refine wb (kO_e e0) ?_
  refine wb (pI_e e0 (show 4 < 5 by omega)) ?_
  refine wr ⟨?_, OFF_up (OFF_refl _ _ _) (by omega)⟩
  exact ⟨f0, f1, f2, f3, hup_same _ _ _, ARR_ne e1 (by omega), ARR_ne e2 (by omega), ARR_ne e3 (by omega), ARR_ne e4 (by omega), Nat.zero_le _, r2, fun j hj => absurd hj (Nat.not_lt_zero _), fun j hj => absurd hj (Nat.not_lt_zero _), fun j hj => absurd hj (Nat.not_lt_zero _), fun j hj => absurd hj (Nat.not_lt_zero _)⟩
theorem COLU_rep {f fb : Nat → Int32} {ws bs : List WR} {g : WR → Int} {p q : Nat} (H : COLU f ws g) (Hb : COLU fb bs g) (h1 : p ≤ q) (h2 : q ≤ ws.length) : COLU (va_cpy fb (va_cpy f f q (p + bs.length) (ws.length - q)) 0 p bs.length) (ws.take p ++ bs ++ ws.drop q) g := by
  intro j hj
  have hl : (ws.take p ++ bs ++ ws.drop q).length = p + bs.length + (ws.length - q) := by
    rw [List.length_append, List.length_append, List.length_take, List.length_drop]
    omega
  have hp : (ws.take p).length = p := by
    rw [List.length_take]
    omega
  rw [wat_get hj]
  unfold va_cpy
  by_cases c1 : j < p
  · rw [if_neg (by omega), if_neg (by omega), H j (by omega), wat_get (show j < ws.length by omega), List.getElem_append_left (by rw [List.length_append]; omega), List.getElem_append_left (by omega), List.getElem_take]
  · by_cases c2 : j < p + bs.length
    · rw [if_pos (by omega), Hb _ (by omega), wat_get (by omega), List.getElem_append_left (by rw [List.length_append]; omega), List.getElem_append_right (by omega)]
      congr 2
      simp only [hp, Nat.zero_add]
    · rw [if_neg (by omega), if_pos (by omega), H _ (by omega), wat_get (by omega), List.getElem_append_right (by rw [List.length_append]; omega), List.getElem_drop]
      congr 2
      simp only [List.length_append, hp]
theorem X6_replace_is {h : HP} {a cap b capb : Nat} {ws bs : List WR} (e : WRS h a cap ws) (k : WRS h b capb bs) (hd : a + 5 ≤ b ∨ b + 5 ≤ a) {p q : Nat} (h1 : p ≤ q) (h2 : q ≤ ws.length) (h3 : p + bs.length + (ws.length - q) ≤ cap) : WP (f_X6_replace h a (zI p) (zI q) b) (fun h' => WRS h' a cap (ws.take p ++ bs ++ ws.drop q) ∧ OFF a 5 h h') := by
  obtain ⟨f0, f1, f2, f3, e0, e1, e2, e3, e4, r, r2, c0, c1, c2, c3⟩ := e
  obtain ⟨p0, p1, p2, p3, k0, k1, k2, k3, k4, s, s2, d0, d1, d2, d3⟩ := k
  unfold f_X6_replace b_X6_replace_0
  refine wb (kO_e e0) ?_
  refine wb (gI_e e0 rfl) ?_
  refine wb (gI_e k0 rfl) ?_
  simp only [zl0, zI_sub, zI_add]
  refine wf (fun d => absurd ((zI_lt (by omega)).mp d) (by omega)) ?_
  refine wf (fun d => absurd ((zI_lt (by omega)).mp d) (by omega)) ?_
  refine wf (fun d => absurd ((zI_lt (by omega)).mp d) (by omega)) ?_
  refine wb (gR_e e0 rfl) ?_
  refine wb (aN_e e1) ?_
  refine wt ((zI_le (by omega)).mpr (by omega)) ?_
  have g0 := OFF_refl a 5 h
  refine wb (gR_e e0 rfl) ?_
  refine wb (gR_e e0 rfl) ?_
  refine wb (cI_e e1 e1 (by omega)) ?_
  have e0 := (hup_ne h (e := .inl (0, cap, .inl (va_cpy f0 f0 ((q : Nat) : Int).toNat ((p : Int) + (bs.length : Int)).toNat ((ws.length : Int) - (q : Int)).toNat))) (show a ≠ a + 1 by omega)).trans e0
  have e2 := ARR_ne (e := .inl (0, cap, .inl (va_cpy f0 f0 ((q : Nat) : Int).toNat ((p : Int) + (bs.length : Int)).toNat ((ws.length : Int) - (q : Int)).toNat))) e2 (show a + 2 ≠ a + 1 by omega)
  have e3 := ARR_ne (e := .inl (0, cap, .inl (va_cpy f0 f0 ((q : Nat) : Int).toNat ((p : Int) + (bs.length : Int)).toNat ((ws.length : Int) - (q : Int)).toNat))) e3 (show a + 3 ≠ a + 1 by omega)
  have e4 := ARR_ne (e := .inl (0, cap, .inl (va_cpy f0 f0 ((q : Nat) : Int).toNat ((p : Int) + (bs.length : Int)).toNat ((ws.length : Int) - (q : Int)).toNat))) e4 (show a + 4 ≠ a + 1 by omega)
  have k0 := (hup_ne h (e := .inl (0, cap, .inl (va_cpy f0 f0 ((q : Nat) : Int).toNat ((p : Int) + (bs.length : Int)).toNat ((ws.length : Int) - (q : Int)).toNat))) (show b ≠ a + 1 by omega)).trans k0
  have k1 := ARR_ne (e := .inl (0, cap, .inl (va_cpy f0 f0 ((q : Nat) : Int).toNat ((p : Int) + (bs.length : Int)).toNat ((ws.length : Int) - (q : Int)).toNat))) k1 (show b + 1 ≠ a + 1 by omega)
  have k2 := ARR_ne (e := .inl (0, cap, .inl (va_cpy f0 f0 ((q : Nat) : Int).toNat ((p : Int) + (bs.length : Int)).toNat ((ws.length : Int) - (q : Int)).toNat))) k2 (show b + 2 ≠ a + 1 by omega)
  have k3 := ARR_ne (e := .inl (0, cap, .inl (va_cpy f0 f0 ((q : Nat) : Int).toNat ((p : Int) + (bs.length : Int)).toNat ((ws.length : Int) - (q : Int)).toNat))) k3 (show b + 3 ≠ a + 1 by omega)
  have k4 := ARR_ne (e := .inl (0, cap, .inl (va_cpy f0 f0 ((q : Nat) : Int).toNat ((p : Int) + (bs.length : Int)).toNat ((ws.length : Int) - (q : Int)).toNat))) k4 (show b + 4 ≠ a + 1 by omega)
  have e1 := ARR_eq h (a + 1) cap (va_cpy f0 f0 ((q : Nat) : Int).toNat ((p : Int) + (bs.length : Int)).toNat ((ws.length : Int) - (q : Int)).toNat)
  have g1 := OFF_up g0 (c := a + 1) (e := .inl (0, cap, .inl (va_cpy f0 f0 ((q : Nat) : Int).toNat ((p : Int) + (bs.length : Int)).toNat ((ws.length : Int) - (q : Int)).toNat))) (by omega)
  generalize hup h (a + 1) _ = h10 at *
  refine wb (gR_e e0 rfl) ?_
  refine wb (gR_e e0 rfl) ?_
  refine wb (cI_e e2 e2 (by omega)) ?_
  have e0 := (hup_ne h10 (e := .inl (0, cap, .inl (va_cpy f1 f1 ((q : Nat) : Int).toNat ((p : Int) + (bs.length : Int)).toNat ((ws.length : Int) - (q : Int)).toNat))) (show a ≠ a + 2 by omega)).trans e0
  have e1 := ARR_ne (e := .inl (0, cap, .inl (va_cpy f1 f1 ((q : Nat) : Int).toNat ((p : Int) + (bs.length : Int)).toNat ((ws.length : Int) - (q : Int)).toNat))) e1 (show a + 1 ≠ a + 2 by omega)
  have e3 := ARR_ne (e := .inl (0, cap, .inl (va_cpy f1 f1 ((q : Nat) : Int).toNat ((p : Int) + (bs.length : Int)).toNat ((ws.length : Int) - (q : Int)).toNat))) e3 (show a + 3 ≠ a + 2 by omega)
  have e4 := ARR_ne (e := .inl (0, cap, .inl (va_cpy f1 f1 ((q : Nat) : Int).toNat ((p : Int) + (bs.length : Int)).toNat ((ws.length : Int) - (q : Int)).toNat))) e4 (show a + 4 ≠ a + 2 by omega)
  have k0 := (hup_ne h10 (e := .inl (0, cap, .inl (va_cpy f1 f1 ((q : Nat) : Int).toNat ((p : Int) + (bs.length : Int)).toNat ((ws.length : Int) - (q : Int)).toNat))) (show b ≠ a + 2 by omega)).trans k0
  have k1 := ARR_ne (e := .inl (0, cap, .inl (va_cpy f1 f1 ((q : Nat) : Int).toNat ((p : Int) + (bs.length : Int)).toNat ((ws.length : Int) - (q : Int)).toNat))) k1 (show b + 1 ≠ a + 2 by omega)
  have k2 := ARR_ne (e := .inl (0, cap, .inl (va_cpy f1 f1 ((q : Nat) : Int).toNat ((p : Int) + (bs.length : Int)).toNat ((ws.length : Int) - (q : Int)).toNat))) k2 (show b + 2 ≠ a + 2 by omega)
  have k3 := ARR_ne (e := .inl (0, cap, .inl (va_cpy f1 f1 ((q : Nat) : Int).toNat ((p : Int) + (bs.length : Int)).toNat ((ws.length : Int) - (q : Int)).toNat))) k3 (show b + 3 ≠ a + 2 by omega)
  have k4 := ARR_ne (e := .inl (0, cap, .inl (va_cpy f1 f1 ((q : Nat) : Int).toNat ((p : Int) + (bs.length : Int)).toNat ((ws.length : Int) - (q : Int)).toNat))) k4 (show b + 4 ≠ a + 2 by omega)
  have e2 := ARR_eq h10 (a + 2) cap (va_cpy f1 f1 ((q : Nat) : Int).toNat ((p : Int) + (bs.length : Int)).toNat ((ws.length : Int) - (q : Int)).toNat)
  have g2 := OFF_up g1 (c := a + 2) (e := .inl (0, cap, .inl (va_cpy f1 f1 ((q : Nat) : Int).toNat ((p : Int) + (bs.length : Int)).toNat ((ws.length : Int) - (q : Int)).toNat))) (by omega)
  generalize hup h10 (a + 2) _ = h11 at *
  refine wb (gR_e e0 rfl) ?_
  refine wb (gR_e e0 rfl) ?_
  refine wb (cI_e e3 e3 (by omega)) ?_
  have e0 := (hup_ne h11 (e := .inl (0, cap, .inl (va_cpy f2 f2 ((q : Nat) : Int).toNat ((p : Int) + (bs.length : Int)).toNat ((ws.length : Int) - (q : Int)).toNat))) (show a ≠ a + 3 by omega)).trans e0
  have e1 := ARR_ne (e := .inl (0, cap, .inl (va_cpy f2 f2 ((q : Nat) : Int).toNat ((p : Int) + (bs.length : Int)).toNat ((ws.length : Int) - (q : Int)).toNat))) e1 (show a + 1 ≠ a + 3 by omega)
  have e2 := ARR_ne (e := .inl (0, cap, .inl (va_cpy f2 f2 ((q : Nat) : Int).toNat ((p : Int) + (bs.length : Int)).toNat ((ws.length : Int) - (q : Int)).toNat))) e2 (show a + 2 ≠ a + 3 by omega)
  have e4 := ARR_ne (e := .inl (0, cap, .inl (va_cpy f2 f2 ((q : Nat) : Int).toNat ((p : Int) + (bs.length : Int)).toNat ((ws.length : Int) - (q : Int)).toNat))) e4 (show a + 4 ≠ a + 3 by omega)
  have k0 := (hup_ne h11 (e := .inl (0, cap, .inl (va_cpy f2 f2 ((q : Nat) : Int).toNat ((p : Int) + (bs.length : Int)).toNat ((ws.length : Int) - (q : Int)).toNat))) (show b ≠ a + 3 by omega)).trans k0
  have k1 := ARR_ne (e := .inl (0, cap, .inl (va_cpy f2 f2 ((q : Nat) : Int).toNat ((p : Int) + (bs.length : Int)).toNat ((ws.length : Int) - (q : Int)).toNat))) k1 (show b + 1 ≠ a + 3 by omega)
  have k2 := ARR_ne (e := .inl (0, cap, .inl (va_cpy f2 f2 ((q : Nat) : Int).toNat ((p : Int) + (bs.length : Int)).toNat ((ws.length : Int) - (q : Int)).toNat))) k2 (show b + 2 ≠ a + 3 by omega)
  have k3 := ARR_ne (e := .inl (0, cap, .inl (va_cpy f2 f2 ((q : Nat) : Int).toNat ((p : Int) + (bs.length : Int)).toNat ((ws.length : Int) - (q : Int)).toNat))) k3 (show b + 3 ≠ a + 3 by omega)
  have k4 := ARR_ne (e := .inl (0, cap, .inl (va_cpy f2 f2 ((q : Nat) : Int).toNat ((p : Int) + (bs.length : Int)).toNat ((ws.length : Int) - (q : Int)).toNat))) k4 (show b + 4 ≠ a + 3 by omega)
  have e3 := ARR_eq h11 (a + 3) cap (va_cpy f2 f2 ((q : Nat) : Int).toNat ((p : Int) + (bs.length : Int)).toNat ((ws.length : Int) - (q : Int)).toNat)
  have g3 := OFF_up g2 (c := a + 3) (e := .inl (0, cap, .inl (va_cpy f2 f2 ((q : Nat) : Int).toNat ((p : Int) + (bs.length : Int)).toNat ((ws.length : Int) - (q : Int)).toNat))) (by omega)
  generalize hup h11 (a + 3) _ = h12 at *
  refine wb (gR_e e0 rfl) ?_
  refine wb (gR_e e0 rfl) ?_
  refine wb (cI_e e4 e4 (by omega)) ?_
  have e0 := (hup_ne h12 (e := .inl (0, cap, .inl (va_cpy f3 f3 ((q : Nat) : Int).toNat ((p : Int) + (bs.length : Int)).toNat ((ws.length : Int) - (q : Int)).toNat))) (show a ≠ a + 4 by omega)).trans e0
  have e1 := ARR_ne (e := .inl (0, cap, .inl (va_cpy f3 f3 ((q : Nat) : Int).toNat ((p : Int) + (bs.length : Int)).toNat ((ws.length : Int) - (q : Int)).toNat))) e1 (show a + 1 ≠ a + 4 by omega)
  have e2 := ARR_ne (e := .inl (0, cap, .inl (va_cpy f3 f3 ((q : Nat) : Int).toNat ((p : Int) + (bs.length : Int)).toNat ((ws.length : Int) - (q : Int)).toNat))) e2 (show a + 2 ≠ a + 4 by omega)
  have e3 := ARR_ne (e := .inl (0, cap, .inl (va_cpy f3 f3 ((q : Nat) : Int).toNat ((p : Int) + (bs.length : Int)).toNat ((ws.length : Int) - (q : Int)).toNat))) e3 (show a + 3 ≠ a + 4 by omega)
  have k0 := (hup_ne h12 (e := .inl (0, cap, .inl (va_cpy f3 f3 ((q : Nat) : Int).toNat ((p : Int) + (bs.length : Int)).toNat ((ws.length : Int) - (q : Int)).toNat))) (show b ≠ a + 4 by omega)).trans k0
  have k1 := ARR_ne (e := .inl (0, cap, .inl (va_cpy f3 f3 ((q : Nat) : Int).toNat ((p : Int) + (bs.length : Int)).toNat ((ws.length : Int) - (q : Int)).toNat))) k1 (show b + 1 ≠ a + 4 by omega)
  have k2 := ARR_ne (e := .inl (0, cap, .inl (va_cpy f3 f3 ((q : Nat) : Int).toNat ((p : Int) + (bs.length : Int)).toNat ((ws.length : Int) - (q : Int)).toNat))) k2 (show b + 2 ≠ a + 4 by omega)
  have k3 := ARR_ne (e := .inl (0, cap, .inl (va_cpy f3 f3 ((q : Nat) : Int).toNat ((p : Int) + (bs.length : Int)).toNat ((ws.length : Int) - (q : Int)).toNat))) k3 (show b + 3 ≠ a + 4 by omega)
  have k4 := ARR_ne (e := .inl (0, cap, .inl (va_cpy f3 f3 ((q : Nat) : Int).toNat ((p : Int) + (bs.length : Int)).toNat ((ws.length : Int) - (q : Int)).toNat))) k4 (show b + 4 ≠ a + 4 by omega)
  have e4 := ARR_eq h12 (a + 4) cap (va_cpy f3 f3 ((q : Nat) : Int).toNat ((p : Int) + (bs.length : Int)).toNat ((ws.length : Int) - (q : Int)).toNat)
  have g4 := OFF_up g3 (c := a + 4) (e := .inl (0, cap, .inl (va_cpy f3 f3 ((q : Nat) : Int).toNat ((p : Int) + (bs.length : Int)).toNat ((ws.length : Int) - (q : Int)).toNat))) (by omega)
  generalize hup h12 (a + 4) _ = h13 at *
  refine wb (gR_e k0 rfl) ?_
  refine wb (gR_e e0 rfl) ?_
  refine wb (gI_e k0 rfl) ?_
  refine wb (cI_e k1 e1 (by omega)) ?_
  have e0 := (hup_ne h13 (e := .inl (0, cap, .inl (va_cpy p0 (va_cpy f0 f0 ((q : Nat) : Int).toNat ((p : Int) + (bs.length : Int)).toNat ((ws.length : Int) - (q : Int)).toNat) (0 : Int).toNat ((p : Nat) : Int).toNat ((bs.length : Nat) : Int).toNat))) (show a ≠ a + 1 by omega)).trans e0
  have e2 := ARR_ne (e := .inl (0, cap, .inl (va_cpy p0 (va_cpy f0 f0 ((q : Nat) : Int).toNat ((p : Int) + (bs.length : Int)).toNat ((ws.length : Int) - (q : Int)).toNat) (0 : Int).toNat ((p : Nat) : Int).toNat ((bs.length : Nat) : Int).toNat))) e2 (show a + 2 ≠ a + 1 by omega)
  have e3 := ARR_ne (e := .inl (0, cap, .inl (va_cpy p0 (va_cpy f0 f0 ((q : Nat) : Int).toNat ((p : Int) + (bs.length : Int)).toNat ((ws.length : Int) - (q : Int)).toNat) (0 : Int).toNat ((p : Nat) : Int).toNat ((bs.length : Nat) : Int).toNat))) e3 (show a + 3 ≠ a + 1 by omega)
  have e4 := ARR_ne (e := .inl (0, cap, .inl (va_cpy p0 (va_cpy f0 f0 ((q : Nat) : Int).toNat ((p : Int) + (bs.length : Int)).toNat ((ws.length : Int) - (q : Int)).toNat) (0 : Int).toNat ((p : Nat) : Int).toNat ((bs.length : Nat) : Int).toNat))) e4 (show a + 4 ≠ a + 1 by omega)
  have k0 := (hup_ne h13 (e := .inl (0, cap, .inl (va_cpy p0 (va_cpy f0 f0 ((q : Nat) : Int).toNat ((p : Int) + (bs.length : Int)).toNat ((ws.length : Int) - (q : Int)).toNat) (0 : Int).toNat ((p : Nat) : Int).toNat ((bs.length : Nat) : Int).toNat))) (show b ≠ a + 1 by omega)).trans k0
  have k1 := ARR_ne (e := .inl (0, cap, .inl (va_cpy p0 (va_cpy f0 f0 ((q : Nat) : Int).toNat ((p : Int) + (bs.length : Int)).toNat ((ws.length : Int) - (q : Int)).toNat) (0 : Int).toNat ((p : Nat) : Int).toNat ((bs.length : Nat) : Int).toNat))) k1 (show b + 1 ≠ a + 1 by omega)
  have k2 := ARR_ne (e := .inl (0, cap, .inl (va_cpy p0 (va_cpy f0 f0 ((q : Nat) : Int).toNat ((p : Int) + (bs.length : Int)).toNat ((ws.length : Int) - (q : Int)).toNat) (0 : Int).toNat ((p : Nat) : Int).toNat ((bs.length : Nat) : Int).toNat))) k2 (show b + 2 ≠ a + 1 by omega)
  have k3 := ARR_ne (e := .inl (0, cap, .inl (va_cpy p0 (va_cpy f0 f0 ((q : Nat) : Int).toNat ((p : Int) + (bs.length : Int)).toNat ((ws.length : Int) - (q : Int)).toNat) (0 : Int).toNat ((p : Nat) : Int).toNat ((bs.length : Nat) : Int).toNat))) k3 (show b + 3 ≠ a + 1 by omega)
  have k4 := ARR_ne (e := .inl (0, cap, .inl (va_cpy p0 (va_cpy f0 f0 ((q : Nat) : Int).toNat ((p : Int) + (bs.length : Int)).toNat ((ws.length : Int) - (q : Int)).toNat) (0 : Int).toNat ((p : Nat) : Int).toNat ((bs.length : Nat) : Int).toNat))) k4 (show b + 4 ≠ a + 1 by omega)
  have e1 := ARR_eq h13 (a + 1) cap (va_cpy p0 (va_cpy f0 f0 ((q : Nat) : Int).toNat ((p : Int) + (bs.length : Int)).toNat ((ws.length : Int) - (q : Int)).toNat) (0 : Int).toNat ((p : Nat) : Int).toNat ((bs.length : Nat) : Int).toNat)
  have g5 := OFF_up g4 (c := a + 1) (e := .inl (0, cap, .inl (va_cpy p0 (va_cpy f0 f0 ((q : Nat) : Int).toNat ((p : Int) + (bs.length : Int)).toNat ((ws.length : Int) - (q : Int)).toNat) (0 : Int).toNat ((p : Nat) : Int).toNat ((bs.length : Nat) : Int).toNat))) (by omega)
  generalize hup h13 (a + 1) _ = h14 at *
  refine wb (gR_e k0 rfl) ?_
  refine wb (gR_e e0 rfl) ?_
  refine wb (gI_e k0 rfl) ?_
  refine wb (cI_e k2 e2 (by omega)) ?_
  have e0 := (hup_ne h14 (e := .inl (0, cap, .inl (va_cpy p1 (va_cpy f1 f1 ((q : Nat) : Int).toNat ((p : Int) + (bs.length : Int)).toNat ((ws.length : Int) - (q : Int)).toNat) (0 : Int).toNat ((p : Nat) : Int).toNat ((bs.length : Nat) : Int).toNat))) (show a ≠ a + 2 by omega)).trans e0
  have e1 := ARR_ne (e := .inl (0, cap, .inl (va_cpy p1 (va_cpy f1 f1 ((q : Nat) : Int).toNat ((p : Int) + (bs.length : Int)).toNat ((ws.length : Int) - (q : Int)).toNat) (0 : Int).toNat ((p : Nat) : Int).toNat ((bs.length : Nat) : Int).toNat))) e1 (show a + 1 ≠ a + 2 by omega)
  have e3 := ARR_ne (e := .inl (0, cap, .inl (va_cpy p1 (va_cpy f1 f1 ((q : Nat) : Int).toNat ((p : Int) + (bs.length : Int)).toNat ((ws.length : Int) - (q : Int)).toNat) (0 : Int).toNat ((p : Nat) : Int).toNat ((bs.length : Nat) : Int).toNat))) e3 (show a + 3 ≠ a + 2 by omega)
  have e4 := ARR_ne (e := .inl (0, cap, .inl (va_cpy p1 (va_cpy f1 f1 ((q : Nat) : Int).toNat ((p : Int) + (bs.length : Int)).toNat ((ws.length : Int) - (q : Int)).toNat) (0 : Int).toNat ((p : Nat) : Int).toNat ((bs.length : Nat) : Int).toNat))) e4 (show a + 4 ≠ a + 2 by omega)
  have k0 := (hup_ne h14 (e := .inl (0, cap, .inl (va_cpy p1 (va_cpy f1 f1 ((q : Nat) : Int).toNat ((p : Int) + (bs.length : Int)).toNat ((ws.length : Int) - (q : Int)).toNat) (0 : Int).toNat ((p : Nat) : Int).toNat ((bs.length : Nat) : Int).toNat))) (show b ≠ a + 2 by omega)).trans k0
  have k1 := ARR_ne (e := .inl (0, cap, .inl (va_cpy p1 (va_cpy f1 f1 ((q : Nat) : Int).toNat ((p : Int) + (bs.length : Int)).toNat ((ws.length : Int) - (q : Int)).toNat) (0 : Int).toNat ((p : Nat) : Int).toNat ((bs.length : Nat) : Int).toNat))) k1 (show b + 1 ≠ a + 2 by omega)
  have k2 := ARR_ne (e := .inl (0, cap, .inl (va_cpy p1 (va_cpy f1 f1 ((q : Nat) : Int).toNat ((p : Int) + (bs.length : Int)).toNat ((ws.length : Int) - (q : Int)).toNat) (0 : Int).toNat ((p : Nat) : Int).toNat ((bs.length : Nat) : Int).toNat))) k2 (show b + 2 ≠ a + 2 by omega)
  have k3 := ARR_ne (e := .inl (0, cap, .inl (va_cpy p1 (va_cpy f1 f1 ((q : Nat) : Int).toNat ((p : Int) + (bs.length : Int)).toNat ((ws.length : Int) - (q : Int)).toNat) (0 : Int).toNat ((p : Nat) : Int).toNat ((bs.length : Nat) : Int).toNat))) k3 (show b + 3 ≠ a + 2 by omega)
  have k4 := ARR_ne (e := .inl (0, cap, .inl (va_cpy p1 (va_cpy f1 f1 ((q : Nat) : Int).toNat ((p : Int) + (bs.length : Int)).toNat ((ws.length : Int) - (q : Int)).toNat) (0 : Int).toNat ((p : Nat) : Int).toNat ((bs.length : Nat) : Int).toNat))) k4 (show b + 4 ≠ a + 2 by omega)
  have e2 := ARR_eq h14 (a + 2) cap (va_cpy p1 (va_cpy f1 f1 ((q : Nat) : Int).toNat ((p : Int) + (bs.length : Int)).toNat ((ws.length : Int) - (q : Int)).toNat) (0 : Int).toNat ((p : Nat) : Int).toNat ((bs.length : Nat) : Int).toNat)
  have g6 := OFF_up g5 (c := a + 2) (e := .inl (0, cap, .inl (va_cpy p1 (va_cpy f1 f1 ((q : Nat) : Int).toNat ((p : Int) + (bs.length : Int)).toNat ((ws.length : Int) - (q : Int)).toNat) (0 : Int).toNat ((p : Nat) : Int).toNat ((bs.length : Nat) : Int).toNat))) (by omega)
  generalize hup h14 (a + 2) _ = h15 at *
  refine wb (gR_e k0 rfl) ?_
  refine wb (gR_e e0 rfl) ?_
  refine wb (gI_e k0 rfl) ?_
  refine wb (cI_e k3 e3 (by omega)) ?_
  have e0 := (hup_ne h15 (e := .inl (0, cap, .inl (va_cpy p2 (va_cpy f2 f2 ((q : Nat) : Int).toNat ((p : Int) + (bs.length : Int)).toNat ((ws.length : Int) - (q : Int)).toNat) (0 : Int).toNat ((p : Nat) : Int).toNat ((bs.length : Nat) : Int).toNat))) (show a ≠ a + 3 by omega)).trans e0
  have e1 := ARR_ne (e := .inl (0, cap, .inl (va_cpy p2 (va_cpy f2 f2 ((q : Nat) : Int).toNat ((p : Int) + (bs.length : Int)).toNat ((ws.length : Int) - (q : Int)).toNat) (0 : Int).toNat ((p : Nat) : Int).toNat ((bs.length : Nat) : Int).toNat))) e1 (show a + 1 ≠ a + 3 by omega)
  have e2 := ARR_ne (e := .inl (0, cap, .inl (va_cpy p2 (va_cpy f2 f2 ((q : Nat) : Int).toNat ((p : Int) + (bs.length : Int)).toNat ((ws.length : Int) - (q : Int)).toNat) (0 : Int).toNat ((p : Nat) : Int).toNat ((bs.length : Nat) : Int).toNat))) e2 (show a + 2 ≠ a + 3 by omega)
  have e4 := ARR_ne (e := .inl (0, cap, .inl (va_cpy p2 (va_cpy f2 f2 ((q : Nat) : Int).toNat ((p : Int) + (bs.length : Int)).toNat ((ws.length : Int) - (q : Int)).toNat) (0 : Int).toNat ((p : Nat) : Int).toNat ((bs.length : Nat) : Int).toNat))) e4 (show a + 4 ≠ a + 3 by omega)
  have k0 := (hup_ne h15 (e := .inl (0, cap, .inl (va_cpy p2 (va_cpy f2 f2 ((q : Nat) : Int).toNat ((p : Int) + (bs.length : Int)).toNat ((ws.length : Int) - (q : Int)).toNat) (0 : Int).toNat ((p : Nat) : Int).toNat ((bs.length : Nat) : Int).toNat))) (show b ≠ a + 3 by omega)).trans k0
  have k1 := ARR_ne (e := .inl (0, cap, .inl (va_cpy p2 (va_cpy f2 f2 ((q : Nat) : Int).toNat ((p : Int) + (bs.length : Int)).toNat ((ws.length : Int) - (q : Int)).toNat) (0 : Int).toNat ((p : Nat) : Int).toNat ((bs.length : Nat) : Int).toNat))) k1 (show b + 1 ≠ a + 3 by omega)
  have k2 := ARR_ne (e := .inl (0, cap, .inl (va_cpy p2 (va_cpy f2 f2 ((q : Nat) : Int).toNat ((p : Int) + (bs.length : Int)).toNat ((ws.length : Int) - (q : Int)).toNat) (0 : Int).toNat ((p : Nat) : Int).toNat ((bs.length : Nat) : Int).toNat))) k2 (show b + 2 ≠ a + 3 by omega)
  have k3 := ARR_ne (e := .inl (0, cap, .inl (va_cpy p2 (va_cpy f2 f2 ((q : Nat) : Int).toNat ((p : Int) + (bs.length : Int)).toNat ((ws.length : Int) - (q : Int)).toNat) (0 : Int).toNat ((p : Nat) : Int).toNat ((bs.length : Nat) : Int).toNat))) k3 (show b + 3 ≠ a + 3 by omega)
  have k4 := ARR_ne (e := .inl (0, cap, .inl (va_cpy p2 (va_cpy f2 f2 ((q : Nat) : Int).toNat ((p : Int) + (bs.length : Int)).toNat ((ws.length : Int) - (q : Int)).toNat) (0 : Int).toNat ((p : Nat) : Int).toNat ((bs.length : Nat) : Int).toNat))) k4 (show b + 4 ≠ a + 3 by omega)
  have e3 := ARR_eq h15 (a + 3) cap (va_cpy p2 (va_cpy f2 f2 ((q : Nat) : Int).toNat ((p : Int) + (bs.length : Int)).toNat ((ws.length : Int) - (q : Int)).toNat) (0 : Int).toNat ((p : Nat) : Int).toNat ((bs.length : Nat) : Int).toNat)
  have g7 := OFF_up g6 (c := a + 3) (e := .inl (0, cap, .inl (va_cpy p2 (va_cpy f2 f2 ((q : Nat) : Int).toNat ((p : Int) + (bs.length : Int)).toNat ((ws.length : Int) - (q : Int)).toNat) (0 : Int).toNat ((p : Nat) : Int).toNat ((bs.length : Nat) : Int).toNat))) (by omega)
  generalize hup h15 (a + 3) _ = h16 at *
  refine wb (gR_e k0 rfl) ?_
  refine wb (gR_e e0 rfl) ?_
  refine wb (gI_e k0 rfl) ?_
  refine wb (cI_e k4 e4 (by omega)) ?_
  have e0 := (hup_ne h16 (e := .inl (0, cap, .inl (va_cpy p3 (va_cpy f3 f3 ((q : Nat) : Int).toNat ((p : Int) + (bs.length : Int)).toNat ((ws.length : Int) - (q : Int)).toNat) (0 : Int).toNat ((p : Nat) : Int).toNat ((bs.length : Nat) : Int).toNat))) (show a ≠ a + 4 by omega)).trans e0
  have e1 := ARR_ne (e := .inl (0, cap, .inl (va_cpy p3 (va_cpy f3 f3 ((q : Nat) : Int).toNat ((p : Int) + (bs.length : Int)).toNat ((ws.length : Int) - (q : Int)).toNat) (0 : Int).toNat ((p : Nat) : Int).toNat ((bs.length : Nat) : Int).toNat))) e1 (show a + 1 ≠ a + 4 by omega)
  have e2 := ARR_ne (e := .inl (0, cap, .inl (va_cpy p3 (va_cpy f3 f3 ((q : Nat) : Int).toNat ((p : Int) + (bs.length : Int)).toNat ((ws.length : Int) - (q : Int)).toNat) (0 : Int).toNat ((p : Nat) : Int).toNat ((bs.length : Nat) : Int).toNat))) e2 (show a + 2 ≠ a + 4 by omega)
  have e3 := ARR_ne (e := .inl (0, cap, .inl (va_cpy p3 (va_cpy f3 f3 ((q : Nat) : Int).toNat ((p : Int) + (bs.length : Int)).toNat ((ws.length : Int) - (q : Int)).toNat) (0 : Int).toNat ((p : Nat) : Int).toNat ((bs.length : Nat) : Int).toNat))) e3 (show a + 3 ≠ a + 4 by omega)
  have k0 := (hup_ne h16 (e := .inl (0, cap, .inl (va_cpy p3 (va_cpy f3 f3 ((q : Nat) : Int).toNat ((p : Int) + (bs.length : Int)).toNat ((ws.length : Int) - (q : Int)).toNat) (0 : Int).toNat ((p : Nat) : Int).toNat ((bs.length : Nat) : Int).toNat))) (show b ≠ a + 4 by omega)).trans k0
  have k1 := ARR_ne (e := .inl (0, cap, .inl (va_cpy p3 (va_cpy f3 f3 ((q : Nat) : Int).toNat ((p : Int) + (bs.length : Int)).toNat ((ws.length : Int) - (q : Int)).toNat) (0 : Int).toNat ((p : Nat) : Int).toNat ((bs.length : Nat) : Int).toNat))) k1 (show b + 1 ≠ a + 4 by omega)
  have k2 := ARR_ne (e := .inl (0, cap, .inl (va_cpy p3 (va_cpy f3 f3 ((q : Nat) : Int).toNat ((p : Int) + (bs.length : Int)).toNat ((ws.length : Int) - (q : Int)).toNat) (0 : Int).toNat ((p : Nat) : Int).toNat ((bs.length : Nat) : Int).toNat))) k2 (show b + 2 ≠ a + 4 by omega)
  have k3 := ARR_ne (e := .inl (0, cap, .inl (va_cpy p3 (va_cpy f3 f3 ((q : Nat) : Int).toNat ((p : Int) + (bs.length : Int)).toNat ((ws.length : Int) - (q : Int)).toNat) (0 : Int).toNat ((p : Nat) : Int).toNat ((bs.length : Nat) : Int).toNat))) k3 (show b + 3 ≠ a + 4 by omega)
  have k4 := ARR_ne (e := .inl (0, cap, .inl (va_cpy p3 (va_cpy f3 f3 ((q : Nat) : Int).toNat ((p : Int) + (bs.length : Int)).toNat ((ws.length : Int) - (q : Int)).toNat) (0 : Int).toNat ((p : Nat) : Int).toNat ((bs.length : Nat) : Int).toNat))) k4 (show b + 4 ≠ a + 4 by omega)
  have e4 := ARR_eq h16 (a + 4) cap (va_cpy p3 (va_cpy f3 f3 ((q : Nat) : Int).toNat ((p : Int) + (bs.length : Int)).toNat ((ws.length : Int) - (q : Int)).toNat) (0 : Int).toNat ((p : Nat) : Int).toNat ((bs.length : Nat) : Int).toNat)
  have g8 := OFF_up g7 (c := a + 4) (e := .inl (0, cap, .inl (va_cpy p3 (va_cpy f3 f3 ((q : Nat) : Int).toNat ((p : Int) + (bs.length : Int)).toNat ((ws.length : Int) - (q : Int)).toNat) (0 : Int).toNat ((p : Nat) : Int).toNat ((bs.length : Nat) : Int).toNat))) (by omega)
  generalize hup h16 (a + 4) _ = h17 at *
  refine wb (pI_e e0 (show 4 < 5 by omega)) ?_
  refine wr ⟨?_, OFF_up g8 (by omega)⟩
  have hq : ((p : Int) + (bs.length : Int)).toNat = p + bs.length := by omega
  have hr : ((ws.length : Int) - (q : Int)).toNat = ws.length - q := by omega
  simp only [List.set_cons_succ, List.set_cons_zero, Int.toNat_natCast, Int.toNat_zero, hq, hr] at e1 e2 e3 e4 ⊢
  refine ⟨_, _, _, _, (hup_same _ _ _).trans ?_, ARR_ne e1 (by omega), ARR_ne e2 (by omega), ARR_ne e3 (by omega), ARR_ne e4 (by omega), ?_, r2, COLU_rep c0 d0 h1 h2, COLU_rep c1 d1 h1 h2, COLU_rep c2 d2 h1 h2, COLU_rep c3 d3 h1 h2⟩
  · have hl : (((ws.take p ++ bs ++ ws.drop q).length : Nat) : Int) = (p : Int) + (bs.length : Int) + ((ws.length : Int) - (q : Int)) := by
      rw [List.length_append, List.length_append, List.length_take, List.length_drop]
      omega
    rw [hl]
  · rw [List.length_append, List.length_append, List.length_take, List.length_drop]
    omega
