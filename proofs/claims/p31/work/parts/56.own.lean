/-! the law's small methods: low, cell, tale -/
theorem zI_bits (x : Int32) (h : x.toBitVec.toNat < 2147483648) : x = zI (x.toBitVec.toNat : Nat) := by
  have h1 : x.toInt = (x.toBitVec.toNat : Int) := by
    show x.toBitVec.toInt = _
    rw [BitVec.toInt_eq_toNat_cond, if_pos (by omega)]
  rw [← h1]
  exact zI_of x
theorem and_is (x : Int32) {m : Nat} (hm : m < 2147483648) : ∃ a : Nat, a ≤ m ∧ x &&& Int32.ofNat m = zI a := by
  have h1 : (x &&& Int32.ofNat m).toBitVec.toNat ≤ m := by
    show (x.toBitVec &&& (Int32.ofNat m).toBitVec).toNat ≤ m
    rw [BitVec.toNat_and]
    have h2 : (Int32.ofNat m).toBitVec.toNat = m := by
      show (BitVec.ofNat 32 m).toNat = m
      rw [BitVec.toNat_ofNat]
      exact Nat.mod_eq_of_lt (by omega)
    rw [h2]
    exact Nat.and_le_right
  exact ⟨_, h1, zI_bits _ (by omega)⟩
theorem low_is (h : HP) (v : Int32) {n : Nat} (hn : 0 < n ∧ n < 100000) {y : Int32} (hy : y = zI n) : ∃ r : Int, f_L_low h v y = some (zI r) ∧ 0 ≤ r ∧ r < n := by
  obtain ⟨a, ha, e⟩ := and_is v (m := 2147483647) (by omega)
  have hm := Nat.mod_lt a hn.1
  refine ⟨(a % n : Nat), ?_, by omega, by omega⟩
  unfold f_L_low b_L_low_0
  rw [hy, if_neg (fun d => by rw [zl0] at d; have := (zI_inj (by omega)).mp d; omega)]
  rw [show v &&& 2147483647 = zI a from e, zI_jrem (by omega) (by omega)]
theorem bit_is (x : Int32) : ∃ a : Int, (a = 0 ∨ a = 1) ∧ x &&& 1 = zI a := by
  obtain ⟨a, ha, e⟩ := and_is x (m := 1) (by omega)
  exact ⟨a, by omega, e⟩
theorem cell_is (h : HP) (L : Nat) (xs : Nat → Int32) (b : Nat) (hL : L ≤ 260) {k : Int} (hk : 0 ≤ k ∧ k < 1000) : ∃ v : Int32, f_L_cell h L xs b (zI k) = some v := by
  unfold f_L_cell b_L_cell_0
  by_cases c : (Int32.ofNat L) ≤ zI k
  · exact ⟨_, if_pos c⟩
  · rw [if_neg c]
    rw [zln, zI_le (by omega)] at c
    unfold sL
    rw [if_neg (fun d => by
      rw [zI_clamp (by omega), zl0, zI_lt (by omega)] at d
      omega)]
    exact ⟨_, rfl⟩
def tl (g : Nat → Int) (acc : Int64) (j : Nat) : Nat → Int64
  | 0 => acc
  | n + 1 => tl g (acc * 1009 + Int32.toInt64 (zI (g j))) (j + 1) n
theorem tl_c {g g' : Nat → Int} : ∀ (n j : Nat) (acc : Int64), (∀ i, j ≤ i → i < j + n → g i = g' i) → tl g acc j n = tl g' acc j n := by
  intro n
  induction n with
  | zero => exact fun j acc _ => rfl
  | succ n ih =>
    intro j acc h
    show tl g (acc * 1009 + Int32.toInt64 (zI (g j))) (j + 1) n = tl g' (acc * 1009 + Int32.toInt64 (zI (g' j))) (j + 1) n
    rw [h j (by omega) (by omega)]
    exact ih (j + 1) _ fun i h1 h2 => h i (by omega) (by omega)
/-- the law's number of what a view sees -/
def taleV (S : SG) (i : Int) : Int64 := tl (fun k => gvV S k i) 113 0 75
theorem taleV_c {S T : SG} {i : Int} (h : ∀ k : Int, vw T k i = vw S k i) : taleV T i = taleV S i := tl_c _ _ _ fun k _ _ => by
  unfold gvV
  rw [h]
theorem tale_loop {h : HP} {x : Nat} {A : AB} (e : CLS h x A) {M : Int} (H : GOK A.1 M) {i : Int} (hi : -1 ≤ i ∧ i < A.1.2.2.1.length) : ∀ (r n : Nat) (acc : Int64) (j : Nat), r < n → j + r = 75 → b_L_tale_7 h x (zI i) n acc (zI j) = some (tl (fun k => gvV A.1 k i) acc j r) := by
  intro r
  induction r with
  | zero =>
    intro n acc j hn hj
    obtain ⟨n, rfl⟩ : ∃ k, n = k + 1 := ⟨n - 1, by omega⟩
    unfold b_L_tale_7 c_L_tale_7
    rw [show (75 : Int32) = zI 75 by decide, if_pos ((zI_le (by omega)).mpr (by omega))]
    rfl
  | succ r ih =>
    intro n acc j hn hj
    obtain ⟨n, rfl⟩ : ∃ k, n = k + 1 := ⟨n - 1, by omega⟩
    unfold b_L_tale_7 c_L_tale_7
    rw [show (75 : Int32) = zI 75 by decide, if_neg (fun d => by have := (zI_le (by omega)).mp d; omega), N_get e H (k := j) (i := i) (by omega) hi rfl rfl, Option.bind_some, show rt (.inl (zI (gvV A.1 j i))) = some (zI (gvV A.1 j i)) from rfl, Option.bind_some]
    have h1 := ih n (acc * 1009 + Int32.toInt64 (zI (gvV A.1 j i))) (j + 1) (by omega) (by omega)
    rw [show zI (j : Int) + 1 = zI ((j + 1 : Nat) : Int) by rw [zl1, zI_add]; rfl]
    exact h1
theorem tale_is {h : HP} {x : Nat} {A : AB} (e : CLS h x A) {M : Int} (H : GOK A.1 M) {i : Int} (hi : -1 ≤ i ∧ i < A.1.2.2.1.length) {y : Int32} (hy : y = zI i) : f_L_tale h x y = some (taleV A.1 i) := by
  unfold f_L_tale b_L_tale_0
  rw [hy]
  exact tale_loop e H hi 75 FU 113 0 (by decide) rfl
theorem cmp_same (x : Int64) : lg_cmp x x = 0 := by
  unfold lg_cmp
  rw [if_neg (Int64.lt_irrefl (a := x)), if_pos rfl]
