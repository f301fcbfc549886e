theorem kHi_bit (hi : Int64) {f l k : Nat} (hf : f ≤ l) (hl : l < 100) (hk : k < 64) : (kHi hi (zI f) (zI l)).toBitVec.getLsbD k = (hi.toBitVec.getLsbD k || decide (f ≤ k + 64 ∧ k + 64 ≤ l)) := by
  unfold kHi
  simp only [show (64 : Int32) = zI 64 by decide, show (127 : Int32) = zI 127 by decide, zl0]
  by_cases c : l < 64
  · rw [if_pos ((zI_lt (by omega)).mpr (by omega)), decide_eq_false (by omega), Bool.or_false]
  · rw [if_neg (fun d => c (by have := (zI_lt (by omega)).mp d; omega)), zI_sub, zI_jmax (by omega), zI_sub, show max ((f : Int) - 64) 0 = ((f - 64 : Nat) : Int) by omega, show (127 : Int) - (l : Int) = ((127 - l : Nat) : Int) by omega, Int64.toBitVec_or, BitVec.getLsbD_or, row_bit (by omega) (by omega) hk]
    congr 1
    exact decide_eq_decide.mpr (by omega)
theorem kbit_row (lo hi : Int64) {f l k : Nat} (hf : f ≤ l) (hl : l < 100) (hk : k < 128) : kbit (kLo lo (zI f) (zI l)) (kHi hi (zI f) (zI l)) k = (kbit lo hi k || decide (f ≤ k ∧ k ≤ l)) := by
  unfold kbit
  by_cases c : k < 64
  · rw [if_pos c, if_pos c, kLo_bit lo hf hl c]
  · rw [if_neg c, if_neg c, kHi_bit hi hf hl (by omega), show k - 64 + 64 = k by omega]
theorem X2_empty_is {h : HP} {a : Nat} {K : Nat → Bool} (e : KEYS h a K) : WP (f_X2_empty h a) (fun h' => KEYS h' a (fun _ => false) ∧ OFF a 1 h h') := by
  obtain ⟨lo, hi, e0, e1⟩ := e
  unfold f_X2_empty b_X2_empty_0 pL pV
  refine wb (kO_e e0) ?_
  rw [e0]
  refine wb rfl ?_
  rw [hup_same]
  refine wb rfl ?_
  refine wr ⟨⟨0, 0, hup_same _ _ _, fun k hk => ?_⟩, OFF_up (OFF_up (OFF_refl _ _ _) (by omega)) (by omega)⟩
  unfold kbit
  split <;> simp
theorem X2_addRow_is {h : HP} {a : Nat} {K : Nat → Bool} (e : KEYS h a K) {f l : Int} (hf : 0 ≤ f ∧ f ≤ l ∧ l < 100) : WP (f_X2_addRow h a (zI f) (zI l)) (fun h' => KEYS h' a (fun k => K k || decide (f ≤ k ∧ (k : Int) ≤ l)) ∧ OFF a 1 h h') := by
  obtain ⟨lo, hi, e0, e1⟩ := e
  refine weq (addRow_is e0 _ _) ?_
  rw [if_neg (fun d => absurd ((zI_le (a := 64) (by omega)).mp d.1) (fun q => absurd ((zI_lt (b := 64) (by omega)).mp d.2) (by omega)))]
  refine ⟨⟨_, _, hup_same _ _ _, fun k hk => ?_⟩, OFF_up (OFF_refl _ _ _) (by omega)⟩
  have h1 := kbit_row lo hi (f := f.toNat) (l := l.toNat) (k := k) (by omega) (by omega) hk
  rw [show ((f.toNat : Nat) : Int) = f by omega, show ((l.toNat : Nat) : Int) = l by omega] at h1
  rw [h1, e1 k hk]
  congr 1
  exact decide_eq_decide.mpr (by omega)
theorem gL_K0 {h : HP} {a : Nat} {lo hi : Int64} (e : h a = some (kCell lo hi)) : gL 2 0 h a = some lo := gL_e e rfl
theorem gL_K1 {h : HP} {a : Nat} {lo hi : Int64} (e : h a = some (kCell lo hi)) : gL 2 1 h a = some hi := gL_e e rfl
theorem pL_K0 {h : HP} {a : Nat} {lo hi x : Int64} (e : h a = some (kCell lo hi)) : pL 2 0 h a x = some (hup h a (kCell x hi)) := by
  unfold pL pV
  rw [e]
  rfl
theorem pL_K1 {h : HP} {a : Nat} {lo hi x : Int64} (e : h a = some (kCell lo hi)) : pL 2 1 h a x = some (hup h a (kCell lo x)) := by
  unfold pL pV
  rw [e]
  rfl
theorem m1_bit {k : Nat} (hk : k < 64) : (-1 : Int64).toBitVec.getLsbD k = true := by
  rw [show (-1 : Int64).toBitVec = BitVec.allOnes 64 by decide, BitVec.getLsbD_allOnes]
  exact decide_eq_true hk
theorem X2_removeAll_is {h : HP} {a b : Nat} {K J : Nat → Bool} (e : KEYS h a K) (d : KEYS h b J) (hab : a ≠ b) : WP (f_X2_removeAll h a b) (fun h' => KEYS h' a (fun k => K k && !J k) ∧ OFF a 1 h h') := by
  obtain ⟨lo, hi, e0, e1⟩ := e
  obtain ⟨lo2, hi2, d0, d1⟩ := d
  unfold f_X2_removeAll b_X2_removeAll_0
  refine wb (kO_e e0) ?_
  refine wb (gL_K0 e0) ?_
  refine wb (gL_K0 d0) ?_
  refine wb (pL_K0 e0) ?_
  refine wb (gL_K1 (hup_same _ _ _)) ?_
  refine wb (gL_K1 ((hup_ne _ _ (by omega)).trans d0)) ?_
  refine wb (pL_K1 (hup_same _ _ _)) ?_
  refine wr ⟨⟨_, _, hup_same _ _ _, fun k hk => ?_⟩, OFF_up (OFF_up (OFF_refl _ _ _) (by omega)) (by omega)⟩
  dsimp only
  rw [← e1 k hk, ← d1 k hk]
  unfold kbit
  by_cases c : k < 64
  · simp only [if_pos c]
    rw [Int64.toBitVec_and, Int64.toBitVec_xor, BitVec.getLsbD_and, BitVec.getLsbD_xor, m1_bit c, Bool.xor_true]
  · simp only [if_neg c]
    rw [Int64.toBitVec_and, Int64.toBitVec_xor, BitVec.getLsbD_and, BitVec.getLsbD_xor, m1_bit (by omega), Bool.xor_true]
theorem X2_addAll_is {h : HP} {a b : Nat} {K J : Nat → Bool} (e : KEYS h a K) (d : KEYS h b J) (hab : a ≠ b) : WP (f_X2_addAll h a b) (fun h' => KEYS h' a (fun k => K k || J k) ∧ OFF a 1 h h') := by
  obtain ⟨lo, hi, e0, e1⟩ := e
  obtain ⟨lo2, hi2, d0, d1⟩ := d
  unfold f_X2_addAll b_X2_addAll_0
  refine wb (kO_e e0) ?_
  refine wb (gL_K0 e0) ?_
  refine wb (gL_K0 d0) ?_
  refine wb (pL_K0 e0) ?_
  refine wb (gL_K1 (hup_same _ _ _)) ?_
  refine wb (gL_K1 ((hup_ne _ _ (by omega)).trans d0)) ?_
  refine wb (pL_K1 (hup_same _ _ _)) ?_
  refine wr ⟨⟨_, _, hup_same _ _ _, fun k hk => ?_⟩, OFF_up (OFF_up (OFF_refl _ _ _) (by omega)) (by omega)⟩
  dsimp only
  rw [← e1 k hk, ← d1 k hk]
  unfold kbit
  by_cases c : k < 64
  · simp only [if_pos c]
    rw [Int64.toBitVec_or, BitVec.getLsbD_or]
  · simp only [if_neg c]
    rw [Int64.toBitVec_or, BitVec.getLsbD_or]
theorem X2_keepOnly_is {h : HP} {a b : Nat} {K J : Nat → Bool} (e : KEYS h a K) (d : KEYS h b J) (hab : a ≠ b) : WP (f_X2_keepOnly h a b) (fun h' => KEYS h' a (fun k => K k && J k) ∧ OFF a 1 h h') := by
  obtain ⟨lo, hi, e0, e1⟩ := e
  obtain ⟨lo2, hi2, d0, d1⟩ := d
  unfold f_X2_keepOnly b_X2_keepOnly_0
  refine wb (kO_e e0) ?_
  refine wb (gL_K0 e0) ?_
  refine wb (gL_K0 d0) ?_
  refine wb (pL_K0 e0) ?_
  refine wb (gL_K1 (hup_same _ _ _)) ?_
  refine wb (gL_K1 ((hup_ne _ _ (by omega)).trans d0)) ?_
  refine wb (pL_K1 (hup_same _ _ _)) ?_
  refine wr ⟨⟨_, _, hup_same _ _ _, fun k hk => ?_⟩, OFF_up (OFF_up (OFF_refl _ _ _) (by omega)) (by omega)⟩
  dsimp only
  rw [← e1 k hk, ← d1 k hk]
  unfold kbit
  by_cases c : k < 64
  · simp only [if_pos c]
    rw [Int64.toBitVec_and, BitVec.getLsbD_and]
  · simp only [if_neg c]
    rw [Int64.toBitVec_and, BitVec.getLsbD_and]
theorem has36 (h : HP) (x : Int64) : b_X2_has_36 h x = some (tB (x.toBitVec.getLsbD 0 = true)) := by
  unfold b_X2_has_36
  have h1 : (lg_cmp (x &&& 1) 0 = 0) ↔ ¬ x.toBitVec.getLsbD 0 = true := by
    rw [lg_cmp_eq, ← Int64.toBitVec_inj, Int64.toBitVec_and, ← BitVec.toNat_inj, BitVec.toNat_and]
    show x.toBitVec.toNat &&& 1 = 0 ↔ ¬ x.toBitVec.toNat.testBit 0 = true
    rw [Nat.and_one_is_mod, Nat.testBit_zero]
    rw [decide_eq_true_eq]
    omega
  by_cases c : x.toBitVec.getLsbD 0 = true
  · rw [if_neg (fun d => h1.mp d c), tB_1 c]
  · rw [if_pos (h1.mpr c), tB_0 c]
theorem X2_has_is {h : HP} {a : Nat} {K : Nat → Bool} (e : KEYS h a K) {k : Nat} (hk : k < 100) : f_X2_has h a (zI k) = some (tB (K k = true)) := by
  obtain ⟨lo, hi, e0, e1⟩ := e
  have h1 := e1 k (by omega)
  unfold kbit at h1
  unfold f_X2_has b_X2_has_0
  simp only [zl0, show (64 : Int32) = zI 64 by decide, show (100 : Int32) = zI 100 by decide, zI_sub]
  rw [kO_e e0, Option.bind_some, if_neg (fun d => absurd ((zI_lt (by omega)).mp d) (by omega)), if_pos ((zI_lt (by omega)).mpr (by omega))]
  by_cases c : k < 64
  · rw [if_pos c] at h1
    rw [if_neg (fun d => absurd ((zI_le (by omega)).mp d) (by omega)), gL_K0 e0, Option.bind_some, has36, jlushr_bit lo c, Nat.zero_add, h1]
  · rw [if_neg c] at h1
    rw [if_pos ((zI_le (by omega)).mpr (by omega)), gL_K1 e0, Option.bind_some, has36, show ((k : Int) - 64) = ((k - 64 : Nat) : Int) by omega, jlushr_bit hi (by omega), Nat.zero_add, h1]
theorem cnt_split (P : Nat → Prop) [DecidablePred P] (p a b : Nat) : cnt P p (a + b) = cnt P p a + cnt P (p + a) b := by
  induction a generalizing p with
  | zero =>
    rw [Nat.zero_add, Nat.add_zero]
    show _ = 0 + _
    omega
  | succ a ih =>
    rw [show a + 1 + b = (a + b) + 1 by omega, cnt_succ, cnt_succ, ih (p + 1), show p + 1 + a = p + (a + 1) by omega]
    omega
theorem cnt_c {P Q : Nat → Prop} [DecidablePred P] [DecidablePred Q] {p n : Nat} (h : ∀ i, p ≤ i → i < p + n → (P i ↔ Q i)) : cnt P p n = cnt Q p n := by
  induction n generalizing p with
  | zero => rfl
  | succ n ih =>
    rw [cnt_succ, cnt_succ, ih (fun i h1 h2 => h i (by omega) (by omega))]
    have := h p (Nat.le_refl _) (by omega)
    by_cases c : P p
    · rw [if_pos c, if_pos (this.mp c)]
    · rw [if_neg c, if_neg (fun d => c (this.mpr d))]
theorem cnt_0 {P : Nat → Prop} [DecidablePred P] {p n : Nat} (h : ∀ i, p ≤ i → i < p + n → ¬ P i) : cnt P p n = 0 := by
  induction n generalizing p with
  | zero => rfl
  | succ n ih => rw [cnt_succ, ih (fun i h1 h2 => h i (by omega) (by omega)), if_neg (h p (Nat.le_refl _) (by omega)), Int.add_zero]
theorem cnt_b (P : Nat → Prop) [DecidablePred P] (p n : Nat) : 0 ≤ cnt P p n ∧ cnt P p n ≤ n := by
  induction n generalizing p with
  | zero => exact ⟨Int.le_refl _, Int.le_refl _⟩
  | succ n ih =>
    have := ih (p + 1)
    rw [cnt_succ]
    split <;> omega
def exB (P : Nat → Bool) (p : Nat) : Nat → Bool
  | 0 => false
  | n + 1 => P p || exB P (p + 1) n
theorem exB_succ (P : Nat → Bool) (p n : Nat) : exB P p (n + 1) = (P p || exB P (p + 1) n) := rfl
theorem exB_iff {P : Nat → Bool} {p n : Nat} : exB P p n = true ↔ ∃ i, p ≤ i ∧ i < p + n ∧ P i = true := by
  induction n generalizing p with
  | zero =>
    constructor
    · intro h
      exact absurd (show false = true from h) (by decide)
    · rintro ⟨i, h1, h2, -⟩
      omega
  | succ n ih =>
    rw [exB_succ, Bool.or_eq_true, ih]
    constructor
    · rintro (h | ⟨i, h1, h2, h3⟩)
      · exact ⟨p, by omega, by omega, h⟩
      · exact ⟨i, by omega, by omega, h3⟩
    · rintro ⟨i, h1, h2, h3⟩
      by_cases c : i = p
      · exact Or.inl (c ▸ h3)
      · exact Or.inr ⟨i, by omega, by omega, h3⟩
theorem Beq {a b : Bool} (h : a = true ↔ b = true) : a = b := by
  cases a <;> cases b <;> simp_all
theorem exB_c {P Q : Nat → Bool} {p n : Nat} (h : ∀ i, p ≤ i → i < p + n → P i = Q i) : exB P p n = exB Q p n := by
  refine Beq (exB_iff.trans (Iff.trans ?_ exB_iff.symm))
  constructor
  · rintro ⟨i, h1, h2, h3⟩
    exact ⟨i, h1, h2, (h i h1 h2) ▸ h3⟩
  · rintro ⟨i, h1, h2, h3⟩
    exact ⟨i, h1, h2, (h i h1 h2).symm ▸ h3⟩
theorem exB_0 {P : Nat → Bool} {p n : Nat} (h : ∀ i, p ≤ i → i < p + n → P i = false) : exB P p n = false := by
  refine Beq (exB_iff.trans ⟨?_, fun d => absurd d (by decide)⟩)
  rintro ⟨i, h1, h2, h3⟩
  rw [h i h1 h2] at h3
  exact h3
theorem exB_last (P : Nat → Bool) (p n : Nat) : exB P p (n + 1) = (exB P p n || P (p + n)) := by
  induction n generalizing p with
  | zero =>
    rw [exB_succ]
    show (P p || false) = (false || P p)
    rw [Bool.or_false, Bool.false_or]
  | succ n ih => rw [exB_succ, ih, exB_succ, Bool.or_assoc, show p + 1 + n = p + (n + 1) by omega]
theorem cnt_mono {P Q : Nat → Prop} [DecidablePred P] [DecidablePred Q] {p n : Nat} (h : ∀ i, p ≤ i → i < p + n → P i → Q i) : cnt P p n ≤ cnt Q p n := by
  induction n generalizing p with
  | zero => exact Int.le_refl _
  | succ n ih =>
    have h1 := ih (p := p + 1) (fun i h1 h2 => h i (by omega) (by omega))
    have h2 := h p (Nat.le_refl _) (by omega)
    rw [cnt_succ, cnt_succ]
    by_cases c : P p
    · rw [if_pos c, if_pos (h2 c)]
      omega
    · rw [if_neg c]
      split <;> omega
theorem eB_mono (Y : List Int) {a b : Int} (h : a ≤ b) : eB Y a ≤ eB Y b := by
  unfold eB
  exact cnt_mono fun i _ _ h1 => by omega
theorem eB_rng (Y : List Int) (a : Int) : 0 ≤ eB Y a ∧ eB Y a ≤ Y.length := cnt_b _ _ _
theorem part_cnt (Y : List Int) {a b : Int} (h : a ≤ b) (p n : Nat) : cnt (fun i => iat Y i < a) p n ≤ cnt (fun i => iat Y i < b) p n ∧ (exB (fun i => decide (a ≤ iat Y i) && decide (iat Y i < b)) p n = true ↔ cnt (fun i => iat Y i < a) p n < cnt (fun i => iat Y i < b) p n) := by
  induction n generalizing p with
  | zero => exact ⟨Int.le_refl _, fun d => absurd (show false = true from d) (by decide), fun d => absurd d (by show ¬ (0 : Int) < 0; omega)⟩
  | succ n ih =>
    obtain ⟨h1, h2⟩ := ih (p + 1)
    rw [cnt_succ, cnt_succ, exB_succ, Bool.or_eq_true, h2, Bool.and_eq_true, decide_eq_true_eq, decide_eq_true_eq]
    by_cases c1 : iat Y p < a
    · rw [if_pos c1, if_pos (by omega)]
      omega
    · by_cases c2 : iat Y p < b
      · rw [if_neg c1, if_pos c2]
        omega
      · rw [if_neg c1, if_neg c2]
        omega
theorem part_iff (Y : List Int) {a b : Int} (h : a ≤ b) : exB (fun i => decide (a ≤ iat Y i) && decide (iat Y i < b)) 0 Y.length = true ↔ eB Y b ≠ eB Y a := by
  obtain ⟨h1, h2⟩ := part_cnt Y h 0 Y.length
  rw [h2]
  unfold eB
  omega
def wcB (w : WR) (k : Int) : Bool := decide (w.2.1 ≤ k ∧ k ≤ w.2.2.1)
theorem wcB_iff {w : WR} {k : Int} : wcB w k = true ↔ w.2.1 ≤ k ∧ k ≤ w.2.2.1 := decide_eq_true_iff
def enB (w : WR) : Bool := decide (0 < w.2.2.2)
theorem enB_iff {w : WR} : enB w = true ↔ 0 < w.2.2.2 := decide_eq_true_iff
def hidB (ws : List WR) (Y : List Int) (j : Nat) (k : Int) (i : Nat) : Bool := decide (eB Y (wat ws i).1 = eB Y (wat ws j).1) && wcB (wat ws i) k && (enB (wat ws j) || !enB (wat ws i))
def k1B (ws : List WR) (Y : List Int) (q j : Nat) (k : Int) : Bool := wcB (wat ws j) k && !exB (hidB ws Y j k) (j + 1) (q - (j + 1))
def kpB (ws : List WR) (Y : List Int) (p q : Nat) (o : Bool) (j : Nat) (k : Int) : Bool := k1B ws Y q j k && (!o || enB (wat ws j) || exB (fun i => enB (wat ws i) && k1B ws Y q i k) p (j - p))
def rowsF (w : WR) (K : Int → Bool) (f k : Int) : Nat → List WR
  | 0 => if f = -1 then [] else [(w.1, f, k - 1, w.2.2.2)]
  | n + 1 => if K k = true then (if f = -1 then rowsF w K k (k + 1) n else rowsF w K f (k + 1) n) else (if f = -1 then rowsF w K (-1) (k + 1) n else (w.1, f, k - 1, w.2.2.2) :: rowsF w K (-1) (k + 1) n)
theorem rowsF_0 (w : WR) (K : Int → Bool) (f k : Int) : rowsF w K f k 0 = if f = -1 then [] else [(w.1, f, k - 1, w.2.2.2)] := rfl
theorem rowsF_succ (w : WR) (K : Int → Bool) (f k : Int) (n : Nat) : rowsF w K f k (n + 1) = if K k = true then (if f = -1 then rowsF w K k (k + 1) n else rowsF w K f (k + 1) n) else (if f = -1 then rowsF w K (-1) (k + 1) n else (w.1, f, k - 1, w.2.2.2) :: rowsF w K (-1) (k + 1) n) := rfl
def rws (w : WR) (K : Int → Bool) : List WR := rowsF w K (-1) w.2.1 (w.2.2.1 + 1 - w.2.1).toNat
def clF (ws : List WR) (Y : List Int) (p q : Nat) (o : Bool) (j : Nat) : Nat → List WR
  | 0 => []
  | n + 1 => rws (wat ws j) (kpB ws Y p q o j) ++ clF ws Y p q o (j + 1) n
theorem clF_succ (ws : List WR) (Y : List Int) (p q : Nat) (o : Bool) (j n : Nat) : clF ws Y p q o j (n + 1) = rws (wat ws j) (kpB ws Y p q o j) ++ clF ws Y p q o (j + 1) n := rfl
def clL (ws : List WR) (Y : List Int) (p q : Nat) (o : Bool) : List WR := clF ws Y p q o p (q - p)
def PCE (w x : WR) : Prop := x.1 = w.1 ∧ (w.2.1 ≤ x.2.1 ∧ x.2.1 ≤ x.2.2.1 ∧ x.2.2.1 ≤ w.2.2.1) ∧ x.2.2.2 = w.2.2.2
def LTW (a b : WR) : Prop := a.1 < b.1 ∨ (a.1 = b.1 ∧ a.2.2.1 < b.2.1)
theorem rowsF_mem {w : WR} {K : Int → Bool} (hw : 0 ≤ w.2.1) : ∀ (n : Nat) (f k : Int), w.2.1 ≤ k → k + n = w.2.2.1 + 1 → (f = -1 ∨ (w.2.1 ≤ f ∧ f < k)) → ∀ x ∈ rowsF w K f k n, PCE w x ∧ (if f = -1 then k else f) ≤ x.2.1 := by
  intro n
  induction n with
  | zero =>
    intro f k h1 h2 h3 x hx
    rw [rowsF_0] at hx
    by_cases c : f = -1
    · rw [if_pos c] at hx
      exact absurd hx List.not_mem_nil
    · rw [if_neg c, List.mem_singleton] at hx
      subst hx
      rw [if_neg c]
      unfold PCE
      dsimp only
      omega
  | succ n ih =>
    intro f k h1 h2 h3 x hx
    rw [rowsF_succ] at hx
    by_cases c1 : K k = true
    · rw [if_pos c1] at hx
      by_cases c : f = -1
      · rw [if_pos c] at hx
        have := ih k (k + 1) (by omega) (by omega) (Or.inr (by omega)) x hx
        rw [if_neg (by omega)] at this
        rw [if_pos c]
        exact this
      · rw [if_neg c] at hx
        have := ih f (k + 1) (by omega) (by omega) (Or.inr (by omega)) x hx
        rw [if_neg c] at this
        rw [if_neg c]
        exact this
    · rw [if_neg c1] at hx
      by_cases c : f = -1
      · rw [if_pos c] at hx
        have := ih (-1) (k + 1) (by omega) (by omega) (Or.inl rfl) x hx
        rw [if_pos rfl] at this
        rw [if_pos c]
        exact ⟨this.1, by omega⟩
      · rw [if_neg c] at hx
        rw [if_neg c]
        rcases List.mem_cons.mp hx with hx | hx
        · subst hx
          unfold PCE
          dsimp only
          omega
        · have := ih (-1) (k + 1) (by omega) (by omega) (Or.inl rfl) x hx
          rw [if_pos rfl] at this
          exact ⟨this.1, by omega⟩
theorem rowsF_pw {w : WR} {K : Int → Bool} (hw : 0 ≤ w.2.1) : ∀ (n : Nat) (f k : Int), w.2.1 ≤ k → k + n = w.2.2.1 + 1 → (f = -1 ∨ (w.2.1 ≤ f ∧ f < k)) → (rowsF w K f k n).Pairwise LTW := by
  intro n
  induction n with
  | zero =>
    intro f k h1 h2 h3
    rw [rowsF_0]
    by_cases c : f = -1
    · rw [if_pos c]
      exact List.Pairwise.nil
    · rw [if_neg c]
      exact List.pairwise_singleton _ _
  | succ n ih =>
    intro f k h1 h2 h3
    rw [rowsF_succ]
    by_cases c1 : K k = true
    · rw [if_pos c1]
      by_cases c : f = -1
      · rw [if_pos c]
        exact ih k (k + 1) (by omega) (by omega) (Or.inr (by omega))
      · rw [if_neg c]
        exact ih f (k + 1) (by omega) (by omega) (Or.inr (by omega))
    · rw [if_neg c1]
      by_cases c : f = -1
      · rw [if_pos c]
        exact ih (-1) (k + 1) (by omega) (by omega) (Or.inl rfl)
      · rw [if_neg c]
        refine List.pairwise_cons.mpr ⟨fun x hx => ?_, ih (-1) (k + 1) (by omega) (by omega) (Or.inl rfl)⟩
        have := rowsF_mem hw n (-1) (k + 1) (by omega) (by omega) (Or.inl rfl) x hx
        rw [if_pos rfl] at this
        have h5 := this.1.1
        have h6 := this.2
        unfold LTW
        dsimp only
        omega
theorem rws_mem {w : WR} {K : Int → Bool} (hw : WOK w) : ∀ x ∈ rws w K, PCE w x := fun x hx => by
  unfold WOK at hw
  exact (rowsF_mem (by omega) _ _ _ (Int.le_refl _) (by omega) (Or.inl rfl) x hx).1
theorem rws_pw {w : WR} {K : Int → Bool} (hw : WOK w) : (rws w K).Pairwise LTW := by
  unfold WOK at hw
  exact rowsF_pw (by omega) _ _ _ (Int.le_refl _) (by omega) (Or.inl rfl)
theorem clF_mem {ws : List WR} {Y : List Int} {p q : Nat} {o : Bool} (hw : WSOK ws) : ∀ (n j : Nat), j + n ≤ ws.length → ∀ x ∈ clF ws Y p q o j n, ∃ i, j ≤ i ∧ i < j + n ∧ PCE (wat ws i) x := by
  intro n
  induction n with
  | zero => exact fun j _ x hx => absurd hx List.not_mem_nil
  | succ n ih =>
    intro j hj x hx
    rw [clF_succ] at hx
    rcases List.mem_append.mp hx with hx | hx
    · exact ⟨j, by omega, by omega, rws_mem (WOK_at hw (by omega)) x hx⟩
    · obtain ⟨i, h1, h2, h3⟩ := ih (j + 1) (by omega) x hx
      exact ⟨i, by omega, by omega, h3⟩
theorem LTW_pce {a b x y : WR} (h : LTW a b) (hx : PCE a x) (hy : PCE b y) : LTW x y := by
  unfold LTW PCE at *
  omega
theorem PCE_refl {w : WR} (h : WOK w) : PCE w w := by
  unfold WOK at h
  unfold PCE
  omega
theorem clF_pw {ws : List WR} {Y : List Int} {p q : Nat} {o : Bool} (hw : WSOK ws) (ho : ORD ws) : ∀ (n j : Nat), j + n ≤ ws.length → (clF ws Y p q o j n).Pairwise LTW := by
  intro n
  induction n with
  | zero => exact fun j _ => List.Pairwise.nil
  | succ n ih =>
    intro j hj
    rw [clF_succ]
    refine List.pairwise_append.mpr ⟨rws_pw (WOK_at hw (by omega)), ih (j + 1) (by omega), fun x hx y hy => ?_⟩
    obtain ⟨i, h1, h2, h3⟩ := clF_mem hw n (j + 1) (by omega) y hy
    exact LTW_pce (ho j i (by omega) (by omega)) (rws_mem (WOK_at hw (by omega)) x hx) h3
theorem ORD_pw {ws : List WR} : ORD ws ↔ ws.Pairwise LTW := by
  rw [List.pairwise_iff_getElem]
  constructor
  · intro h i j hi hj hij
    have := h i j hij hj
    rw [wat_get hi, wat_get hj] at this
    exact this
  · intro h i j hij hj
    have := h i j (by omega) hj hij
    rw [wat_get (by omega), wat_get hj]
    exact this
def ENT (ws : List WR) : Prop := ∀ w ∈ ws, 0 < w.2.2.2 → w.2.1 = w.2.2.1
def NUM (ws : List WR) (n : Int) : Prop := ∀ w ∈ ws, 1 ≤ w.1 ∧ w.1 ≤ n
def wcl (ws : List WR) (Y : List Int) (p q : Nat) (o : Bool) : List WR := ws.take p ++ clL ws Y p q o ++ ws.drop q
theorem wcl_mem {ws : List WR} {Y : List Int} {p q : Nat} {o : Bool} (hw : WSOK ws) (hq : q ≤ ws.length) : ∀ x ∈ wcl ws Y p q o, ∃ w ∈ ws, PCE w x := by
  intro x hx
  unfold wcl at hx
  rcases List.mem_append.mp hx with hx | hx
  · rcases List.mem_append.mp hx with hx | hx
    · have := List.mem_of_mem_take hx
      exact ⟨x, this, PCE_refl (hw x this)⟩
    · by_cases c : p ≤ q
      · obtain ⟨i, h1, h2, h3⟩ := clF_mem hw (q - p) p (by omega) x hx
        exact ⟨wat ws i, wat_mem (by omega), h3⟩
      · unfold clL at hx
        rw [show q - p = 0 by omega] at hx
        exact absurd hx List.not_mem_nil
  · have := List.mem_of_mem_drop hx
    exact ⟨x, this, PCE_refl (hw x this)⟩
theorem wcl_WSOK {ws : List WR} {Y : List Int} {p q : Nat} {o : Bool} (hw : WSOK ws) (hq : q ≤ ws.length) : WSOK (wcl ws Y p q o) := by
  intro x hx
  obtain ⟨w, h1, h2⟩ := wcl_mem hw hq x hx
  have := hw w h1
  unfold WOK PCE at *
  omega
theorem wcl_ENT {ws : List WR} {Y : List Int} {p q : Nat} {o : Bool} (hw : WSOK ws) (he : ENT ws) (hq : q ≤ ws.length) : ENT (wcl ws Y p q o) := by
  intro x hx h0
  obtain ⟨w, h1, h2⟩ := wcl_mem hw hq x hx
  have := he w h1
  unfold PCE at *
  omega
theorem wcl_NUM {ws : List WR} {Y : List Int} {p q : Nat} {o : Bool} {n : Int} (hw : WSOK ws) (he : NUM ws n) (hq : q ≤ ws.length) : NUM (wcl ws Y p q o) n := by
  intro x hx
  obtain ⟨w, h1, h2⟩ := wcl_mem hw hq x hx
  have := he w h1
  unfold PCE at *
  omega
theorem wcl_ORD {ws : List WR} {Y : List Int} {p q : Nat} {o : Bool} (hw : WSOK ws) (ho : ORD ws) (hp : p ≤ q) (hq : q ≤ ws.length) : ORD (wcl ws Y p q o) := by
  have h0 := ORD_pw.mp ho
  unfold wcl
  rw [ORD_pw]
  refine List.pairwise_append.mpr ⟨List.pairwise_append.mpr ⟨List.Pairwise.sublist (List.take_sublist _ _) h0, clF_pw hw ho _ _ (by omega), fun x hx y hy => ?_⟩, List.Pairwise.sublist (List.drop_sublist _ _) h0, fun x hx y hy => ?_⟩
  · obtain ⟨i, h1, h2, h3⟩ := clF_mem hw (q - p) p (by omega) y hy
    obtain ⟨a, ha, rfl⟩ := List.getElem_of_mem hx
    rw [List.length_take] at ha
    rw [List.getElem_take, ← wat_get (by omega)]
    exact LTW_pce (ho a i (by omega) (by omega)) (PCE_refl (WOK_at hw (by omega))) h3
  · obtain ⟨b, hb, rfl⟩ := List.getElem_of_mem hy
    rw [List.length_drop] at hb
    rw [List.getElem_drop, ← wat_get (by omega)]
    rcases List.mem_append.mp hx with hx | hx
    · obtain ⟨a, ha, rfl⟩ := List.getElem_of_mem hx
      rw [List.length_take] at ha
      rw [List.getElem_take, ← wat_get (by omega)]
      exact ho a (q + b) (by omega) (by omega)
    · obtain ⟨i, h1, h2, h3⟩ := clF_mem hw (q - p) p (by omega) x hx
      exact LTW_pce (ho i (q + b) (by omega) (by omega)) h3 (PCE_refl (WOK_at hw (by omega)))
theorem rowsF_len {w : WR} {K : Int → Bool} : ∀ (n : Nat) (f : Int) (k : Nat), ((rowsF w K f k n).length : Int) ≤ cnt (fun i => K i = true) k n + (if f = -1 then 0 else 1) := by
  intro n
  induction n with
  | zero =>
    intro f k
    rw [rowsF_0]
    by_cases c : f = -1
    · rw [if_pos c, if_pos c]
      show (0 : Int) ≤ 0 + 0
      omega
    · rw [if_neg c, if_neg c]
      show (1 : Int) ≤ 0 + 1
      omega
  | succ n ih =>
    intro f k
    have hk : ((k : Int) + 1) = ((k + 1 : Nat) : Int) := by omega
    rw [rowsF_succ, cnt_succ, hk]
    by_cases c1 : K k = true
    · rw [if_pos c1, if_pos c1]
      by_cases c : f = -1
      · rw [if_pos c, if_pos c]
        have := ih k (k + 1)
        rw [if_neg (by omega)] at this
        omega
      · rw [if_neg c, if_neg c]
        have := ih f (k + 1)
        rw [if_neg c] at this
        omega
    · rw [if_neg c1, if_neg c1]
      have := ih (-1) (k + 1)
      rw [if_pos rfl] at this
      by_cases c : f = -1
      · rw [if_pos c, if_pos c]
        omega
      · rw [if_neg c, if_neg c, List.length_cons]
        omega
theorem cnt_part (P : Nat → Prop) [DecidablePred P] {p n a m : Nat} (h : a ≤ p ∧ p + n ≤ a + m) : cnt P p n ≤ cnt P a m := by
  have h1 := cnt_split P a (p - a) (m - (p - a))
  have h2 := cnt_split P p n (m - (p - a) - n)
  have h3 := cnt_b P a (p - a)
  have h4 := cnt_b P (p + n) (m - (p - a) - n)
  rw [show p - a + (m - (p - a)) = m by omega, show a + (p - a) = p by omega] at h1
  rw [show n + (m - (p - a) - n) = m - (p - a) by omega] at h2
  omega
theorem rws_len {w : WR} {K : Int → Bool} (hw : WOK w) : ((rws w K).length : Int) ≤ cnt (fun i => K i = true) 0 100 := by
  unfold WOK at hw
  have h1 := rowsF_len (w := w) (K := K) (w.2.2.1 + 1 - w.2.1).toNat (-1) w.2.1.toNat
  rw [if_pos rfl, show ((w.2.1.toNat : Nat) : Int) = w.2.1 by omega] at h1
  have h2 := cnt_part (fun i : Nat => K i = true) (p := w.2.1.toNat) (n := (w.2.2.1 + 1 - w.2.1).toNat) (a := 0) (m := 100) (by omega)
  unfold rws
  omega
theorem rws_len1 {w : WR} {K : Int → Bool} (hw : WOK w) (he : w.2.1 = w.2.2.1) : (rws w K).length ≤ 1 := by
  unfold WOK at hw
  have h1 := rowsF_len (w := w) (K := K) (w.2.2.1 + 1 - w.2.1).toNat (-1) w.2.1.toNat
  rw [if_pos rfl, show ((w.2.1.toNat : Nat) : Int) = w.2.1 by omega] at h1
  have h2 := cnt_b (fun i : Nat => K i = true) w.2.1.toNat (w.2.2.1 + 1 - w.2.1).toNat
  unfold rws
  omega
theorem smf_add (f g : Nat → Int) (p n : Nat) : smf (fun i => f i + g i) p n = smf f p n + smf g p n := by
  induction n generalizing p with
  | zero => rfl
  | succ n ih =>
    rw [smf_succ, smf_succ, smf_succ, ih]
    omega
theorem smf_cnt (P : Nat → Prop) [DecidablePred P] (p n : Nat) : smf (fun i => if P i then 1 else 0) p n = cnt P p n := by
  induction n generalizing p with
  | zero => rfl
  | succ n ih => rw [smf_succ, cnt_succ, ih]
theorem smf_0 (p n : Nat) : smf (fun _ => 0) p n = 0 := by
  induction n generalizing p with
  | zero => rfl
  | succ n ih => rw [smf_succ, ih, Int.zero_add]
theorem smf_le {f : Nat → Int} {p n : Nat} {c : Int} (h : ∀ i, p ≤ i → i < p + n → f i ≤ c) : smf f p n ≤ n * c := by
  induction n generalizing p with
  | zero =>
    show (0 : Int) ≤ _
    omega
  | succ n ih =>
    have h1 := ih (p := p + 1) (fun i h1 h2 => h i (by omega) (by omega))
    have h2 := h p (Nat.le_refl _) (by omega)
    rw [smf_succ, show ((n + 1 : Nat) : Int) * c = n * c + c by rw [show ((n + 1 : Nat) : Int) = (n : Int) + 1 by omega, Int.add_mul, Int.one_mul]]
    omega
theorem smf_swap (G : Nat → Nat → Bool) (a m j n : Nat) : smf (fun i => cnt (fun k => G i k = true) a m) j n = smf (fun k => cnt (fun i => G i k = true) j n) a m := by
  induction n generalizing j with
  | zero => exact (smf_0 a m).symm
  | succ n ih =>
    rw [smf_succ, ih]
    have h1 : smf (fun k => cnt (fun i => G i k = true) j (n + 1)) a m = smf (fun k => (if G j k = true then 1 else 0) + cnt (fun i => G i k = true) (j + 1) n) a m := rfl
    rw [h1, smf_add, smf_cnt]
