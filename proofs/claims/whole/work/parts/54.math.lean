/-! sets of keys, in two numbers -/
def kbit (lo hi : Int64) (k : Nat) : Bool := if k < 64 then lo.toBitVec.getLsbD k else hi.toBitVec.getLsbD (k - 64)
def KEYS (h : HP) (a : Nat) (K : Nat → Bool) : Prop := ∃ lo hi, h a = some (kCell lo hi) ∧ ∀ k : Nat, k < 128 → kbit lo hi k = K k
theorem KEYS_off {h h' : HP} {a a' n' : Nat} {K : Nat → Bool} (e : KEYS h a K) (k : OFF a' n' h h') (d : a < a' ∨ a' + n' ≤ a) : KEYS h' a K := by
  obtain ⟨lo, hi, e0, e1⟩ := e
  exact ⟨lo, hi, (k _ (by omega)).trans e0, e1⟩
theorem KEYS_ext {h : HP} {a : Nat} {K K' : Nat → Bool} (e : KEYS h a K) (k : ∀ i : Nat, i < 128 → K i = K' i) : KEYS h a K' := by
  obtain ⟨lo, hi, e0, e1⟩ := e
  exact ⟨lo, hi, e0, fun i hi => (e1 i hi).trans (k i hi)⟩
theorem shl_tab : ∀ f k : Fin 64, (jlshl (-1) (Int32.ofNat f.val)).toBitVec.getLsbD k.val = decide (f.val ≤ k.val) := by decide +kernel
theorem shr_tab : ∀ s k : Fin 64, (jlushr (-1) (Int32.ofNat s.val)).toBitVec.getLsbD k.val = decide (k.val + s.val < 64) := by decide +kernel
theorem sha_tab : ∀ s : Fin 64, ((Int32.ofNat s.val).toInt64.toUInt64 &&& Int64.toUInt64 63).toNat = s.val := by decide +kernel
theorem jlushr_nat (x : Int64) {s : Nat} (hs : s < 64) : (jlushr x (zI s)).toBitVec.toNat = x.toBitVec.toNat / 2 ^ s := by
  have h1 := sha_tab ⟨s, hs⟩
  dsimp only at h1
  unfold jlushr
  rw [← zln]
  show (x.toUInt64 >>> ((Int32.ofNat s).toInt64.toUInt64 &&& Int64.toUInt64 63)).toNat = _
  rw [UInt64.toNat_shiftRight, h1, Nat.shiftRight_eq_div_pow, Nat.mod_eq_of_lt hs]
  rfl
theorem jlushr_bit (x : Int64) {s k : Nat} (hs : s < 64) : (jlushr x (zI s)).toBitVec.getLsbD k = x.toBitVec.getLsbD (k + s) := by
  show (jlushr x (zI s)).toBitVec.toNat.testBit k = x.toBitVec.toNat.testBit (k + s)
  rw [jlushr_nat x hs, Nat.testBit_div_two_pow]
theorem row_bit {f s k : Nat} (hf : f < 64) (hs : s < 64) (hk : k < 64) : (jlshl (-1) (zI f) &&& jlushr (-1) (zI s)).toBitVec.getLsbD k = decide (f ≤ k ∧ k + s < 64) := by
  have h1 := shl_tab ⟨f, hf⟩ ⟨k, hk⟩
  have h2 := shr_tab ⟨s, hs⟩ ⟨k, hk⟩
  dsimp only at h1 h2
  rw [Int64.toBitVec_and, BitVec.getLsbD_and, ← zln, ← zln, h1, h2, Bool.decide_and]
theorem kLo_bit (lo : Int64) {f l k : Nat} (hf : f ≤ l) (hl : l < 100) (hk : k < 64) : (kLo lo (zI f) (zI l)).toBitVec.getLsbD k = (lo.toBitVec.getLsbD k || decide (f ≤ k ∧ k ≤ l)) := by
  unfold kLo
  simp only [show (64 : Int32) = zI 64 by decide, show (63 : Int32) = zI 63 by decide]
  by_cases c : 64 ≤ f
  · rw [if_pos ((zI_le (by omega)).mpr (by omega)), decide_eq_false (by omega), Bool.or_false]
  · rw [if_neg (fun d => c (by have := (zI_le (by omega)).mp d; omega)), zI_jmin (by omega), zI_sub, show (63 : Int) - min (l : Int) 63 = ((63 - min l 63 : Nat) : Int) by omega, Int64.toBitVec_or, BitVec.getLsbD_or, row_bit (by omega) (by omega) hk]
    congr 1
    exact decide_eq_decide.mpr (by omega)
theorem kHi_bit (hi : Int64) {f l k : Nat} (hf : f ≤ l) (hl : l < 100) (hk : k < 64) : (kHi hi (zI f) (zI l)).toBitVec.getLsbD k = (hi.toBitVec.getLsbD k || decide (f ≤ k + 64 ∧ k + 64 ≤ l)) := by
  unfold kHi
  simp only [show (64 : Int32) = zI 64 by decide, show (127 : Int32) = zI 127 by decide, zl0]
  by_cases c : l < 64
  · rw [if_pos ((zI_lt (by omega)).mpr (by omega)), decide_eq_false (by omega), Bool.or_false]
  · rw [if_neg (fun d => c (by have := (zI_lt (by omega)).mp d; omega)), zI_sub, zI_jmax (by omega), zI_sub, show max ((f : Int) - 64) 0 = ((f - 64 : Nat) : Int) by omega, show (127 : Int) - (l : Int) = ((127 - l : Nat) : Int) by omega, Int64.toBitVec_or, BitVec.getLsbD_or, row_bit (by omega) (by omega) hk]
    congr 1
    exact decide_eq_decide.mpr (by omega)
theorem kbit_row (lo hi : Int64) {f l k : Nat} (hf : f ≤ l) (hl : l < 100) (hk : k < 128) : kbit (kLo lo (zI f) (zI l)) (kHi hi (zI f) (zI l)) k = (kbit lo hi k || decide (f ≤ k ∧ k ≤ l)) := by
  unfold kbit
  by_cases c : k < 64
  · rw [if_pos c, if_pos c, kLo_bit lo hf hl c]
  · rw [if_neg c, if_neg c, kHi_bit hi hf hl (by omega), show k - 64 + 64 = k by omega]
theorem kO_K {h : HP} {a : Nat} {K : Nat → Bool} (e : KEYS h a K) : kO 2 h a = some () := by
  obtain ⟨lo, hi, e0, e1⟩ := e
  exact kO_e e0
theorem X2_empty_is {h : HP} {a : Nat} {K : Nat → Bool} (e : KEYS h a K) : WP (f_X2_empty h a) (fun h' => KEYS h' a (fun _ => false) ∧ OFF a 1 h h') := by
  obtain ⟨lo, hi, e0, e1⟩ := e
  unfold f_X2_empty b_X2_empty_0 pL pV
  refine wb (kO_e e0) ?_
  rw [e0]
  refine wb rfl ?_
  rw [hup_same]
  refine wb rfl ?_
  refine wr ⟨⟨0, 0, hup_same _ _ _, fun k hk => ?_⟩, OFF_up (OFF_up (OFF_refl _ _ _) (by omega)) (by omega)⟩
  unfold kbit
  split <;> simp
theorem X2_addRow_is {h : HP} {a : Nat} {K : Nat → Bool} (e : KEYS h a K) {f l : Int} (hf : 0 ≤ f ∧ f ≤ l ∧ l < 100) : WP (f_X2_addRow h a (zI f) (zI l)) (fun h' => KEYS h' a (fun k => K k || decide (f ≤ k ∧ (k : Int) ≤ l)) ∧ OFF a 1 h h') := by
  obtain ⟨lo, hi, e0, e1⟩ := e
  refine weq (addRow_is e0 _ _) ?_
  rw [if_neg (fun d => absurd ((zI_le (a := 64) (by omega)).mp d.1) (fun q => absurd ((zI_lt (b := 64) (by omega)).mp d.2) (by omega)))]
  refine ⟨⟨_, _, hup_same _ _ _, fun k hk => ?_⟩, OFF_up (OFF_refl _ _ _) (by omega)⟩
  have h1 := kbit_row lo hi (f := f.toNat) (l := l.toNat) (k := k) (by omega) (by omega) hk
  rw [show ((f.toNat : Nat) : Int) = f by omega, show ((l.toNat : Nat) : Int) = l by omega] at h1
  rw [h1, e1 k hk]
  congr 1
  exact decide_eq_decide.mpr (by omega)
theorem gL_K0 {h : HP} {a : Nat} {lo hi : Int64} (e : h a = some (kCell lo hi)) : gL 2 0 h a = some lo := gL_e e rfl
theorem gL_K1 {h : HP} {a : Nat} {lo hi : Int64} (e : h a = some (kCell lo hi)) : gL 2 1 h a = some hi := gL_e e rfl
theorem pL_K0 {h : HP} {a : Nat} {lo hi x : Int64} (e : h a = some (kCell lo hi)) : pL 2 0 h a x = some (hup h a (kCell x hi)) := by
  unfold pL pV
  rw [e]
  rfl
theorem pL_K1 {h : HP} {a : Nat} {lo hi x : Int64} (e : h a = some (kCell lo hi)) : pL 2 1 h a x = some (hup h a (kCell lo x)) := by
  unfold pL pV
  rw [e]
  rfl
theorem m1_bit {k : Nat} (hk : k < 64) : (-1 : Int64).toBitVec.getLsbD k = true := by
  rw [show (-1 : Int64).toBitVec = BitVec.allOnes 64 by decide, BitVec.getLsbD_allOnes]
  exact decide_eq_true hk
theorem X2_removeAll_is {h : HP} {a b : Nat} {K J : Nat → Bool} (e : KEYS h a K) (d : KEYS h b J) (hab : a ≠ b) : WP (f_X2_removeAll h a b) (fun h' => KEYS h' a (fun k => K k && !J k) ∧ OFF a 1 h h') := by
  obtain ⟨lo, hi, e0, e1⟩ := e
  obtain ⟨lo2, hi2, d0, d1⟩ := d
  unfold f_X2_removeAll b_X2_removeAll_0
  refine wb (kO_e e0) ?_
  refine wb (gL_K0 e0) ?_
  refine wb (gL_K0 d0) ?_
  refine wb (pL_K0 e0) ?_
  refine wb (gL_K1 (hup_same _ _ _)) ?_
  refine wb (gL_K1 ((hup_ne _ _ (by omega)).trans d0)) ?_
  refine wb (pL_K1 (hup_same _ _ _)) ?_
  refine wr ⟨⟨_, _, hup_same _ _ _, fun k hk => ?_⟩, OFF_up (OFF_up (OFF_refl _ _ _) (by omega)) (by omega)⟩
  dsimp only
  rw [← e1 k hk, ← d1 k hk]
  unfold kbit
  by_cases c : k < 64
  · simp only [if_pos c]
    rw [Int64.toBitVec_and, Int64.toBitVec_xor, BitVec.getLsbD_and, BitVec.getLsbD_xor, m1_bit c, Bool.xor_true]
  · simp only [if_neg c]
    rw [Int64.toBitVec_and, Int64.toBitVec_xor, BitVec.getLsbD_and, BitVec.getLsbD_xor, m1_bit (by omega), Bool.xor_true]
theorem X2_addAll_is {h : HP} {a b : Nat} {K J : Nat → Bool} (e : KEYS h a K) (d : KEYS h b J) (hab : a ≠ b) : WP (f_X2_addAll h a b) (fun h' => KEYS h' a (fun k => K k || J k) ∧ OFF a 1 h h') := by
  obtain ⟨lo, hi, e0, e1⟩ := e
  obtain ⟨lo2, hi2, d0, d1⟩ := d
  unfold f_X2_addAll b_X2_addAll_0
  refine wb (kO_e e0) ?_
  refine wb (gL_K0 e0) ?_
  refine wb (gL_K0 d0) ?_
  refine wb (pL_K0 e0) ?_
  refine wb (gL_K1 (hup_same _ _ _)) ?_
  refine wb (gL_K1 ((hup_ne _ _ (by omega)).trans d0)) ?_
  refine wb (pL_K1 (hup_same _ _ _)) ?_
  refine wr ⟨⟨_, _, hup_same _ _ _, fun k hk => ?_⟩, OFF_up (OFF_up (OFF_refl _ _ _) (by omega)) (by omega)⟩
  dsimp only
  rw [← e1 k hk, ← d1 k hk]
  unfold kbit
  by_cases c : k < 64
  · simp only [if_pos c]
    rw [Int64.toBitVec_or, BitVec.getLsbD_or]
  · simp only [if_neg c]
    rw [Int64.toBitVec_or, BitVec.getLsbD_or]
theorem X2_keepOnly_is {h : HP} {a b : Nat} {K J : Nat → Bool} (e : KEYS h a K) (d : KEYS h b J) (hab : a ≠ b) : WP (f_X2_keepOnly h a b) (fun h' => KEYS h' a (fun k => K k && J k) ∧ OFF a 1 h h') := by
  obtain ⟨lo, hi, e0, e1⟩ := e
  obtain ⟨lo2, hi2, d0, d1⟩ := d
  unfold f_X2_keepOnly b_X2_keepOnly_0
  refine wb (kO_e e0) ?_
  refine wb (gL_K0 e0) ?_
  refine wb (gL_K0 d0) ?_
  refine wb (pL_K0 e0) ?_
  refine wb (gL_K1 (hup_same _ _ _)) ?_
  refine wb (gL_K1 ((hup_ne _ _ (by omega)).trans d0)) ?_
  refine wb (pL_K1 (hup_same _ _ _)) ?_
  refine wr ⟨⟨_, _, hup_same _ _ _, fun k hk => ?_⟩, OFF_up (OFF_up (OFF_refl _ _ _) (by omega)) (by omega)⟩
  dsimp only
  rw [← e1 k hk, ← d1 k hk]
  unfold kbit
  by_cases c : k < 64
  · simp only [if_pos c]
    rw [Int64.toBitVec_and, BitVec.getLsbD_and]
  · simp only [if_neg c]
    rw [Int64.toBitVec_and, BitVec.getLsbD_and]
theorem has36 (h : HP) (x : Int64) : b_X2_has_36 h x = some (tB (x.toBitVec.getLsbD 0 = true)) := by
  unfold b_X2_has_36
  have h1 : (lg_cmp (x &&& 1) 0 = 0) ↔ ¬ x.toBitVec.getLsbD 0 = true := by
    rw [lg_cmp_eq, ← Int64.toBitVec_inj, Int64.toBitVec_and, ← BitVec.toNat_inj, BitVec.toNat_and]
    show x.toBitVec.toNat &&& 1 = 0 ↔ ¬ x.toBitVec.toNat.testBit 0 = true
    rw [Nat.and_one_is_mod, Nat.testBit_zero]
    rw [decide_eq_true_eq]
    omega
  by_cases c : x.toBitVec.getLsbD 0 = true
  · rw [if_neg (fun d => h1.mp d c), tB_1 c]
  · rw [if_pos (h1.mpr c), tB_0 c]
theorem X2_has_is {h : HP} {a : Nat} {K : Nat → Bool} (e : KEYS h a K) {k : Nat} (hk : k < 100) : f_X2_has h a (zI k) = some (tB (K k = true)) := by
  obtain ⟨lo, hi, e0, e1⟩ := e
  have h1 := e1 k (by omega)
  unfold kbit at h1
  unfold f_X2_has b_X2_has_0
  simp only [zl0, show (64 : Int32) = zI 64 by decide, show (100 : Int32) = zI 100 by decide, zI_sub]
  rw [kO_e e0, Option.bind_some, if_neg (fun d => absurd ((zI_lt (by omega)).mp d) (by omega)), if_pos ((zI_lt (by omega)).mpr (by omega))]
  by_cases c : k < 64
  · rw [if_pos c] at h1
    rw [if_neg (fun d => absurd ((zI_le (by omega)).mp d) (by omega)), gL_K0 e0, Option.bind_some, has36, jlushr_bit lo c, Nat.zero_add, h1]
  · rw [if_neg c] at h1
    rw [if_pos ((zI_le (by omega)).mpr (by omega)), gL_K1 e0, Option.bind_some, has36, show ((k : Int) - 64) = ((k - 64 : Nat) : Int) by omega, jlushr_bit hi (by omega), Nat.zero_add, h1]
