/-! how many bits a number has, as the machine counts them -/
theorem and_split {i a b c d : Nat} (hb : b < 2 ^ i) (hd : d < 2 ^ i) : (2 ^ i * a + b) &&& (2 ^ i * c + d) = 2 ^ i * (a &&& c) + (b &&& d) := by
  apply Nat.eq_of_testBit_eq
  intro j
  rw [Nat.testBit_and, Nat.testBit_two_pow_mul_add _ hb, Nat.testBit_two_pow_mul_add _ hd, Nat.testBit_two_pow_mul_add _ (Nat.and_lt_two_pow _ hd)]
  split <;> rw [Nat.testBit_and]
def pm1 : Nat → Nat
  | 0 => 0
  | k + 1 => 4 * pm1 k + 1
def pm2 : Nat → Nat
  | 0 => 0
  | k + 1 => 16 * pm2 k + 3
def pm3 : Nat → Nat
  | 0 => 0
  | k + 1 => 256 * pm3 k + 15
def pP2 : Nat → Nat → Nat
  | 0, _ => 0
  | k + 1, x => 4 * pP2 k (x / 4) + (x % 4 - x % 4 / 2)
def pQ4 : Nat → Nat → Nat
  | 0, _ => 0
  | k + 1, y => 16 * pQ4 k (y / 16) + (y % 4 + y / 4 % 4)
/-- bits of four -/
def pb4 (x : Nat) : Nat := (x % 4 - x % 4 / 2) + (x / 4 % 4 - x / 4 % 4 / 2)
def pR4 : Nat → Nat → Nat
  | 0, _ => 0
  | k + 1, x => 16 * pR4 k (x / 16) + pb4 x
def pT8 : Nat → Nat → Nat
  | 0, _ => 0
  | k + 1, x => 256 * pT8 k (x / 256) + (pb4 x + pb4 (x / 16))
def SB : Nat → Nat → Nat
  | 0, _ => 0
  | n + 1, x => x % 2 + SB n (x / 2)
theorem SB_succ (n x : Nat) : SB (n + 1) x = x % 2 + SB n (x / 2) := rfl
theorem pP2_succ (k x : Nat) : pP2 (k + 1) x = 4 * pP2 k (x / 4) + (x % 4 - x % 4 / 2) := rfl
theorem pQ4_succ (k x : Nat) : pQ4 (k + 1) x = 16 * pQ4 k (x / 16) + (x % 4 + x / 4 % 4) := rfl
theorem pR4_succ (k x : Nat) : pR4 (k + 1) x = 16 * pR4 k (x / 16) + pb4 x := rfl
theorem pT8_succ (k x : Nat) : pT8 (k + 1) x = 256 * pT8 k (x / 256) + (pb4 x + pb4 (x / 16)) := rfl
theorem pb4_le (x : Nat) : pb4 x ≤ 4 := by
  unfold pb4
  omega
theorem pst1 : ∀ k x : Nat, x < 4 ^ k → (x / 2) &&& pm1 k ≤ x ∧ x - ((x / 2) &&& pm1 k) = pP2 k x := by
  intro k
  induction k with
  | zero =>
    intro x hx
    have : x = 0 := by omega
    subst this
    exact ⟨by decide, by decide⟩
  | succ k ih =>
    intro x hx
    have h0 : x / 4 < 4 ^ k := by
      rw [Nat.pow_succ] at hx
      omega
    obtain ⟨h1, h2⟩ := ih (x / 4) h0
    have h3 : (x / 2) &&& pm1 (k + 1) = 2 ^ 2 * ((x / 4 / 2) &&& pm1 k) + ((x / 2) % 4 &&& 1) := by
      rw [← and_split (show (x / 2) % 4 < 2 ^ 2 by omega) (show 1 < 2 ^ 2 by omega)]
      congr 1
      omega
    rw [Nat.and_one_is_mod] at h3
    rw [h3, pP2_succ]
    generalize (x / 4 / 2) &&& pm1 k = y at *
    omega
theorem pst2 : ∀ k y : Nat, (y &&& pm2 k) + ((y / 4) &&& pm2 k) = pQ4 k y := by
  intro k
  induction k with
  | zero =>
    intro y
    show (y &&& 0) + ((y / 4) &&& 0) = 0
    rw [Nat.and_zero, Nat.and_zero]
  | succ k ih =>
    intro y
    have h1 := ih (y / 16)
    have e1 : y &&& pm2 (k + 1) = 2 ^ 4 * ((y / 16) &&& pm2 k) + (y % 16 &&& (2 ^ 2 - 1)) := by
      rw [← and_split (show y % 16 < 2 ^ 4 by omega) (show 2 ^ 2 - 1 < 2 ^ 4 by omega)]
      congr 1
      omega
    have e2 : (y / 4) &&& pm2 (k + 1) = 2 ^ 4 * ((y / 16 / 4) &&& pm2 k) + (y / 4 % 16 &&& (2 ^ 2 - 1)) := by
      rw [← and_split (show y / 4 % 16 < 2 ^ 4 by omega) (show 2 ^ 2 - 1 < 2 ^ 4 by omega)]
      congr 1
      omega
    rw [Nat.and_two_pow_sub_one_eq_mod] at e1 e2
    rw [e1, e2, pQ4_succ]
    generalize (y / 16) &&& pm2 k = u at *
    generalize (y / 16 / 4) &&& pm2 k = v at *
    omega
theorem pPQ : ∀ k x : Nat, pQ4 k (pP2 (2 * k) x) = pR4 k x := by
  intro k
  induction k with
  | zero => exact fun _ => rfl
  | succ k ih =>
    intro x
    have h1 := ih (x / 16)
    rw [show 2 * (k + 1) = 2 * k + 1 + 1 by omega, pP2_succ, pP2_succ, pQ4_succ, pR4_succ, ← h1, show x / 4 / 4 = x / 16 by omega]
    generalize pP2 (2 * k) (x / 16) = z at *
    unfold pb4
    rw [show (4 * (4 * z + (x / 4 % 4 - x / 4 % 4 / 2)) + (x % 4 - x % 4 / 2)) / 16 = z by omega]
    omega
theorem pR4_mod (k x : Nat) : pR4 k x % 16 ≤ 4 := by
  cases k with
  | zero => exact Nat.zero_le _
  | succ k =>
    rw [pR4_succ]
    have := pb4_le x
    omega
theorem pst3 : ∀ k x : Nat, (pR4 (2 * k) x + pR4 (2 * k) x / 16) &&& pm3 k = pT8 k x := by
  intro k
  induction k with
  | zero =>
    intro x
    exact Nat.and_zero _
  | succ k ih =>
    intro x
    have h1 := ih (x / 256)
    have h2 := pR4_mod (2 * k) (x / 256)
    have h3 := pb4_le x
    have h4 := pb4_le (x / 16)
    rw [show 2 * (k + 1) = 2 * k + 1 + 1 by omega, pR4_succ, pR4_succ, pT8_succ, ← h1, show x / 16 / 16 = x / 256 by omega]
    generalize pR4 (2 * k) (x / 256) = z at *
    generalize pb4 x = c at *
    generalize pb4 (x / 16) = d at *
    have e1 : (16 * (16 * z + d) + c + (16 * (16 * z + d) + c) / 16) &&& pm3 (k + 1) = 2 ^ 8 * ((z + z / 16) &&& pm3 k) + ((16 * (z % 16) + 16 * d + c + d) &&& (2 ^ 4 - 1)) := by
      rw [← and_split (show 16 * (z % 16) + 16 * d + c + d < 2 ^ 8 by omega) (show 2 ^ 4 - 1 < 2 ^ 8 by omega)]
      congr 1
      omega
    rw [e1, Nat.and_two_pow_sub_one_eq_mod]
    omega
theorem pb2 (x : Nat) : x % 4 - x % 4 / 2 = x % 2 + x / 2 % 2 := by omega
theorem SB8 (n x : Nat) : SB (n + 8) x = (pb4 x + pb4 (x / 16)) + SB n (x / 256) := by
  rw [show n + 8 = n + 1 + 1 + 1 + 1 + 1 + 1 + 1 + 1 by omega]
  simp only [SB_succ]
  rw [show x / 2 / 2 / 2 / 2 / 2 / 2 / 2 / 2 = x / 256 by omega]
  unfold pb4
  rw [pb2, pb2, pb2, pb2, show x / 16 / 4 = x / 2 / 2 / 2 / 2 / 2 / 2 by omega, show x / 16 = x / 2 / 2 / 2 / 2 by omega, show x / 4 = x / 2 / 2 by omega]
  simp only [Nat.add_assoc]
theorem pf_2 {v A B C d0 d1 d2 : Nat} (hv : v = 256 * A + d0) (hA : A = 256 * B + d1) (hB : B = 256 * C + d2) (h0 : d0 ≤ 8) (h1 : d1 ≤ 8) (h2 : d2 ≤ 8) : (v + A) / 65536 = B + C := by
  have e : v + A = 65536 * (B + C) + (256 * d1 + d0 + 256 * d2 + d1) := by
    subst hv hA hB
    omega
  rw [e, Nat.mul_add_div (by decide), Nat.div_eq_of_lt (by omega), Nat.add_zero]
theorem pf_3 {v A B C D E F G d0 d1 d2 d3 d4 d5 d6 : Nat} (hv : v = 256 * A + d0) (hA : A = 256 * B + d1) (hB : B = 256 * C + d2) (hC : C = 256 * D + d3) (hD : D = 256 * E + d4) (hE : E = 256 * F + d5) (hF : F = 256 * G + d6) (h0 : d0 ≤ 8) (h1 : d1 ≤ 8) (h2 : d2 ≤ 8) (h3 : d3 ≤ 8) (h4 : d4 ≤ 8) (h5 : d5 ≤ 8) (h6 : d6 ≤ 8) : (v + A + (B + C)) / 4294967296 = D + E + (F + G) := by
  have e : v + A + (B + C) = 4294967296 * (D + E + (F + G)) + (16777216 * d3 + 65536 * d2 + 256 * d1 + d0 + (16777216 * d4 + 65536 * d3 + 256 * d2 + d1) + (16777216 * d5 + 65536 * d4 + 256 * d3 + d2) + (16777216 * d6 + 65536 * d5 + 256 * d4 + d3)) := by
    subst hv hA hB hC hD hE hF
    omega
  rw [e, Nat.mul_add_div (by decide), Nat.div_eq_of_lt (by omega), Nat.add_zero]
theorem pf_4 {v A B C D E F G d0 d1 d2 d3 d4 d5 d6 d7 : Nat} (hv : v = 256 * A + d0) (hA : A = 256 * B + d1) (hB : B = 256 * C + d2) (hC : C = 256 * D + d3) (hD : D = 256 * E + d4) (hE : E = 256 * F + d5) (hF : F = 256 * G + d6) (hG : G = 256 * 0 + d7) (h0 : d0 ≤ 8) (h1 : d1 ≤ 8) (h2 : d2 ≤ 8) (h3 : d3 ≤ 8) (h4 : d4 ≤ 8) (h5 : d5 ≤ 8) (h6 : d6 ≤ 8) (h7 : d7 ≤ 8) : (v + A + (B + C) + (D + E + (F + G))) % 128 = d0 + (d1 + (d2 + (d3 + (d4 + (d5 + (d6 + (d7 + 0))))))) := by
  have e : v + A + (B + C) + (D + E + (F + G)) = 128 * (2 * A + 2 * B + 2 * C + 2 * D + 2 * E + 2 * F + 2 * G) + (d0 + (d1 + (d2 + (d3 + (d4 + (d5 + (d6 + (d7 + 0)))))))) := by
    subst hv hA hB hC hD hE hF hG
    omega
  rw [e, Nat.mul_add_mod, Nat.mod_eq_of_lt (by omega)]
theorem pf_1 {v A B C D E F G d0 d1 d2 d3 d4 d5 d6 d7 : Nat} (hv : v = 256 * A + d0) (hA : A = 256 * B + d1) (hB : B = 256 * C + d2) (hC : C = 256 * D + d3) (hD : D = 256 * E + d4) (hE : E = 256 * F + d5) (hF : F = 256 * G + d6) (hG : G = 256 * 0 + d7) (h0 : d0 ≤ 8) (h1 : d1 ≤ 8) (h2 : d2 ≤ 8) (h3 : d3 ≤ 8) (h4 : d4 ≤ 8) (h5 : d5 ≤ 8) (h6 : d6 ≤ 8) (h7 : d7 ≤ 8) : v < 1000000000000000000 := by
  have b7 : G ≤ 8 := by omega
  clear hG h7
  have b6 : F ≤ 2060 := by omega
  clear hF h6
  have b5 : E ≤ 530000 := by omega
  clear hE h5
  have b4 : D ≤ 136000000 := by omega
  clear hD h4
  have b3 : C ≤ 35000000000 := by omega
  clear hC h3
  have b2 : B ≤ 9000000000000 := by omega
  clear hB h2
  have b1 : A ≤ 2400000000000000 := by omega
  omega
theorem pfin {d0 d1 d2 d3 d4 d5 d6 d7 v A B C D E F G : Nat} (h0 : d0 ≤ 8) (h1 : d1 ≤ 8) (h2 : d2 ≤ 8) (h3 : d3 ≤ 8) (h4 : d4 ≤ 8) (h5 : d5 ≤ 8) (h6 : d6 ≤ 8) (h7 : d7 ≤ 8) (hv : v = 256 * A + d0) (hA : A = 256 * B + d1) (hB : B = 256 * C + d2) (hC : C = 256 * D + d3) (hD : D = 256 * E + d4) (hE : E = 256 * F + d5) (hF : F = 256 * G + d6) (hG : G = 256 * 0 + d7) : v < 1000000000000000000 ∧ ((v + v / 256) + (v + v / 256) / 65536 + ((v + v / 256) + (v + v / 256) / 65536) / 4294967296) % 128 = d0 + (d1 + (d2 + (d3 + (d4 + (d5 + (d6 + (d7 + 0))))))) := by
  refine ⟨pf_1 hv hA hB hC hD hE hF hG h0 h1 h2 h3 h4 h5 h6 h7, ?_⟩
  have e1 : v / 256 = A := by
    rw [hv, Nat.mul_add_div (by decide), Nat.div_eq_of_lt (by omega), Nat.add_zero]
  rw [e1, pf_2 hv hA hB h0 h1 h2, pf_3 hv hA hB hC hD hE hF h0 h1 h2 h3 h4 h5 h6]
  exact pf_4 hv hA hB hC hD hE hF hG h0 h1 h2 h3 h4 h5 h6 h7
theorem pT8_fin (x : Nat) : pT8 8 x < 1000000000000000000 ∧ ((pT8 8 x + pT8 8 x / 256) + (pT8 8 x + pT8 8 x / 256) / 65536 + ((pT8 8 x + pT8 8 x / 256) + (pT8 8 x + pT8 8 x / 256) / 65536) / 4294967296) % 128 = SB 64 x := by
  have h := pfin (v := pT8 8 x) (d0 := pb4 x + pb4 (x / 16)) (d1 := pb4 (x / 256) + pb4 (x / 256 / 16)) (d2 := pb4 (x / 256 / 256) + pb4 (x / 256 / 256 / 16)) (d3 := pb4 (x / 256 / 256 / 256) + pb4 (x / 256 / 256 / 256 / 16)) (d4 := pb4 (x / 256 / 256 / 256 / 256) + pb4 (x / 256 / 256 / 256 / 256 / 16)) (d5 := pb4 (x / 256 / 256 / 256 / 256 / 256) + pb4 (x / 256 / 256 / 256 / 256 / 256 / 16)) (d6 := pb4 (x / 256 / 256 / 256 / 256 / 256 / 256) + pb4 (x / 256 / 256 / 256 / 256 / 256 / 256 / 16)) (d7 := pb4 (x / 256 / 256 / 256 / 256 / 256 / 256 / 256) + pb4 (x / 256 / 256 / 256 / 256 / 256 / 256 / 256 / 16)) (Nat.add_le_add (pb4_le _) (pb4_le _)) (Nat.add_le_add (pb4_le _) (pb4_le _)) (Nat.add_le_add (pb4_le _) (pb4_le _)) (Nat.add_le_add (pb4_le _) (pb4_le _)) (Nat.add_le_add (pb4_le _) (pb4_le _)) (Nat.add_le_add (pb4_le _) (pb4_le _)) (Nat.add_le_add (pb4_le _) (pb4_le _)) (Nat.add_le_add (pb4_le _) (pb4_le _)) rfl rfl rfl rfl rfl rfl rfl rfl
  refine ⟨h.1, h.2.trans ?_⟩
  have s1 := SB8 56 x
  have s2 := SB8 48 (x / 256)
  have s3 := SB8 40 (x / 256 / 256)
  have s4 := SB8 32 (x / 256 / 256 / 256)
  have s5 := SB8 24 (x / 256 / 256 / 256 / 256)
  have s6 := SB8 16 (x / 256 / 256 / 256 / 256 / 256)
  have s7 := SB8 8 (x / 256 / 256 / 256 / 256 / 256 / 256)
  have s8 := SB8 0 (x / 256 / 256 / 256 / 256 / 256 / 256 / 256)
  rw [s1, s2, s3, s4, s5, s6, s7, s8]
  rfl
theorem pc_1 (v : Int64) : (v - ((jlushr v 1) &&& 6148914691236517205)).toBitVec.toNat = pP2 32 v.toBitVec.toNat := by
  have h0 := v.toBitVec.isLt
  have h1 := pst1 32 v.toBitVec.toNat h0
  have h2 : ((jlushr v 1) &&& 6148914691236517205).toBitVec.toNat = (v.toBitVec.toNat / 2) &&& pm1 32 := by
    rw [Int64.toBitVec_and, BitVec.toNat_and, show (1 : Int32) = zI (1 : Nat) by decide, jlushr_nat v (by omega)]
    rfl
  rw [Int64.toBitVec_sub, BitVec.toNat_sub_of_le (by rw [BitVec.le_def, h2]; exact h1.1), h2]
  exact h1.2
theorem pc_2 (a : Int64) : ((a &&& 3689348814741910323) + ((jlushr a 2) &&& 3689348814741910323)).toBitVec.toNat = pQ4 16 a.toBitVec.toNat := by
  have h0 := a.toBitVec.isLt
  have h1 := pst2 16 a.toBitVec.toNat
  have h2 : ((jlushr a 2) &&& 3689348814741910323).toBitVec.toNat = (a.toBitVec.toNat / 4) &&& pm2 16 := by
    rw [Int64.toBitVec_and, BitVec.toNat_and, show (2 : Int32) = zI (2 : Nat) by decide, jlushr_nat a (by omega)]
    rfl
  have h3 : (a &&& 3689348814741910323).toBitVec.toNat = a.toBitVec.toNat &&& pm2 16 := by
    rw [Int64.toBitVec_and, BitVec.toNat_and]
    rfl
  have h4 : ∀ z : Nat, z &&& pm2 16 ≤ 3689348814741910323 := fun z => Nat.and_le_right
  have h5 := h4 a.toBitVec.toNat
  have h6 := h4 (a.toBitVec.toNat / 4)
  rw [Int64.toBitVec_add, BitVec.toNat_add, h2, h3, Nat.mod_eq_of_lt (by omega)]
  exact h1
theorem pR4_b (k x : Nat) : pR4 k x < 16 ^ k ∧ 3 * pR4 k x < 16 ^ k := by
  induction k generalizing x with
  | zero => exact ⟨Nat.one_pos, Nat.one_pos⟩
  | succ k ih =>
    have h1 := ih (x / 16)
    have h2 := pb4_le x
    rw [pR4_succ, Nat.pow_succ]
    omega
theorem pc_3 {a : Int64} {x : Nat} (h : a.toBitVec.toNat = pR4 16 x) : ((a + jlushr a 4) &&& 1085102592571150095).toBitVec.toNat = pT8 8 x := by
  have h1 := pst3 8 x
  have h2 := pR4_b 16 x
  have h3 : (jlushr a 4).toBitVec.toNat = pR4 16 x / 16 := by
    rw [show (4 : Int32) = zI (4 : Nat) by decide, jlushr_nat a (by omega), h]
  rw [Int64.toBitVec_and, BitVec.toNat_and, Int64.toBitVec_add, BitVec.toNat_add, h, h3, Nat.mod_eq_of_lt (by omega)]
  exact h1
theorem pc_4 {b : Int64} {x : Nat} (h : b.toBitVec.toNat = pT8 8 x) : Int64.toInt32 ((b + jlushr b 8) + jlushr (b + jlushr b 8) 16 + jlushr ((b + jlushr b 8) + jlushr (b + jlushr b 8) 16) 32) &&& 127 = zI (SB 64 x) := by
  have h1 := pT8_fin x
  have e1 : (b + jlushr b 8).toBitVec.toNat = pT8 8 x + pT8 8 x / 256 := by
    rw [Int64.toBitVec_add, BitVec.toNat_add, show (8 : Int32) = zI (8 : Nat) by decide, jlushr_nat b (by omega), h, Nat.mod_eq_of_lt (by omega)]
  generalize b + jlushr b 8 = c at *
  have e2 : (c + jlushr c 16).toBitVec.toNat = (pT8 8 x + pT8 8 x / 256) + (pT8 8 x + pT8 8 x / 256) / 65536 := by
    rw [Int64.toBitVec_add, BitVec.toNat_add, show (16 : Int32) = zI (16 : Nat) by decide, jlushr_nat c (by omega), e1, Nat.mod_eq_of_lt (by omega)]
  generalize c + jlushr c 16 = d at *
  have e3 : (d + jlushr d 32).toBitVec.toNat = (pT8 8 x + pT8 8 x / 256) + (pT8 8 x + pT8 8 x / 256) / 65536 + ((pT8 8 x + pT8 8 x / 256) + (pT8 8 x + pT8 8 x / 256) / 65536) / 4294967296 := by
    rw [Int64.toBitVec_add, BitVec.toNat_add, show (32 : Int32) = zI (32 : Nat) by decide, jlushr_nat d (by omega), e2, Nat.mod_eq_of_lt (by omega)]
  generalize d + jlushr d 32 = w at *
  have e4 : (Int64.toInt32 w &&& 127).toBitVec.toNat = w.toBitVec.toNat % 128 := by
    rw [Int32.toBitVec_and, BitVec.toNat_and, Int64.toBitVec_toInt32, BitVec.signExtend_eq_setWidth_of_le _ (by omega), BitVec.toNat_setWidth]
    show w.toBitVec.toNat % 2 ^ 32 &&& (2 ^ 7 - 1) = _
    rw [Nat.and_two_pow_sub_one_eq_mod]
    omega
  have hb : SB 64 x < 128 := by omega
  rw [← Int32.toBitVec_inj, ← BitVec.toNat_inj, e4, e3, h1.2, ← zln]
  show SB 64 x = SB 64 x % 2 ^ 32
  omega
theorem bitCount_is (h : HP) (v : Int64) : f_J13_bitCount_95d88 h v = some (zI (SB 64 v.toBitVec.toNat)) := by
  have h1 := pc_1 v
  unfold f_J13_bitCount_95d88 b_J13_bitCount_95d88_0
  generalize v - ((jlushr v 1) &&& 6148914691236517205) = d at *
  have h2 := pc_2 d
  rw [h1, show (32 : Nat) = 2 * 16 from rfl, pPQ] at h2
  generalize (d &&& 3689348814741910323) + ((jlushr d 2) &&& 3689348814741910323) = c at *
  have h3 := pc_3 h2
  generalize (c + jlushr c 4) &&& 1085102592571150095 = b at *
  exact congrArg some (pc_4 h3)
/-! counts -/
theorem cnt_split (P : Nat → Prop) [DecidablePred P] (p a b : Nat) : cnt P p (a + b) = cnt P p a + cnt P (p + a) b := by
  induction a generalizing p with
  | zero =>
    rw [Nat.zero_add, Nat.add_zero]
    show _ = 0 + _
    omega
  | succ a ih =>
    rw [show a + 1 + b = (a + b) + 1 by omega, cnt_succ, cnt_succ, ih (p + 1), show p + 1 + a = p + (a + 1) by omega]
    omega
theorem cnt_c {P Q : Nat → Prop} [DecidablePred P] [DecidablePred Q] {p n : Nat} (h : ∀ i, p ≤ i → i < p + n → (P i ↔ Q i)) : cnt P p n = cnt Q p n := by
  induction n generalizing p with
  | zero => rfl
  | succ n ih =>
    rw [cnt_succ, cnt_succ, ih (fun i h1 h2 => h i (by omega) (by omega))]
    have := h p (Nat.le_refl _) (by omega)
    by_cases c : P p
    · rw [if_pos c, if_pos (this.mp c)]
    · rw [if_neg c, if_neg (fun d => c (this.mpr d))]
theorem cnt_0 {P : Nat → Prop} [DecidablePred P] {p n : Nat} (h : ∀ i, p ≤ i → i < p + n → ¬ P i) : cnt P p n = 0 := by
  induction n generalizing p with
  | zero => rfl
  | succ n ih => rw [cnt_succ, ih (fun i h1 h2 => h i (by omega) (by omega)), if_neg (h p (Nat.le_refl _) (by omega)), Int.add_zero]
theorem cnt_b (P : Nat → Prop) [DecidablePred P] (p n : Nat) : 0 ≤ cnt P p n ∧ cnt P p n ≤ n := by
  induction n generalizing p with
  | zero => exact ⟨Int.le_refl _, Int.le_refl _⟩
  | succ n ih =>
    have := ih (p + 1)
    rw [cnt_succ]
    split <;> omega
theorem cnt_sh (P : Nat → Prop) [DecidablePred P] (p d n : Nat) : cnt P (p + d) n = cnt (fun i => P (i + d)) p n := by
  induction n generalizing p with
  | zero => rfl
  | succ n ih => rw [cnt_succ, cnt_succ, show p + d + 1 = p + 1 + d by omega, ih]
theorem cnt_SB (y p n : Nat) : cnt (fun i => y.testBit i = true) p n = (SB n (y / 2 ^ p) : Nat) := by
  induction n generalizing p with
  | zero => rfl
  | succ n ih =>
    rw [cnt_succ, ih, SB_succ, Nat.div_div_eq_div_mul, ← Nat.pow_succ, Nat.succ_eq_add_one]
    have h1 : y.testBit p = true ↔ y / 2 ^ p % 2 = 1 := by
      rw [Nat.testBit_eq_decide_div_mod_eq, decide_eq_true_eq]
    by_cases c : y.testBit p = true
    · rw [if_pos c]
      have := h1.mp c
      omega
    · rw [if_neg c]
      have : ¬ (y / 2 ^ p % 2 = 1) := fun d => c (h1.mpr d)
      omega
theorem X2_size_is {h : HP} {a : Nat} {K : Nat → Bool} (e : KEYS h a K) (hK : ∀ k : Nat, 100 ≤ k → k < 128 → K k = false) : f_X2_size h a = some (zI (cnt (fun k => K k = true) 0 100)) := by
  obtain ⟨lo, hi, e0, e1⟩ := e
  unfold f_X2_size b_X2_size_0
  rw [kO_e e0, Option.bind_some, gL_K0 e0, Option.bind_some, bitCount_is, Option.bind_some, gL_K1 e0, Option.bind_some, bitCount_is, Option.bind_some, zI_add]
  refine congrArg some (congrArg zI ?_)
  have h1 : cnt (fun k => K k = true) 0 128 = cnt (fun k => K k = true) 0 100 + cnt (fun k => K k = true) 100 28 := cnt_split _ 0 100 28
  have h2 : cnt (fun k => K k = true) 100 28 = 0 := cnt_0 fun i h1 h2 => by rw [hK i h1 h2]; decide
  have h3 : cnt (fun k => K k = true) 0 128 = cnt (fun k => K k = true) 0 64 + cnt (fun k => K k = true) (0 + 64) 64 := cnt_split _ 0 64 64
  have h4 : cnt (fun k => K k = true) 0 64 = cnt (fun i => lo.toBitVec.toNat.testBit i = true) 0 64 := cnt_c fun i h1 h2 => by
    have := e1 i (by omega)
    unfold kbit at this
    rw [if_pos (by omega)] at this
    rw [← this]
    rfl
  have h5 : cnt (fun k => K k = true) (0 + 64) 64 = cnt (fun i => hi.toBitVec.toNat.testBit i = true) 0 64 := by
    rw [cnt_sh]
    refine cnt_c fun i h1 h2 => ?_
    have := e1 (i + 64) (by omega)
    unfold kbit at this
    rw [if_neg (by omega), show i + 64 - 64 = i by omega] at this
    rw [← this]
    rfl
  rw [cnt_SB, Nat.pow_zero, Nat.div_one] at h4 h5
  omega
