/-! numbers of what is seen -/
/-- the sum of n numbers from place p on -/
def smf (f : Nat → Int) (p : Nat) : Nat → Int
  | 0 => 0
  | n + 1 => f p + smf f (p + 1) n
theorem smf_succ (f : Nat → Int) (p n : Nat) : smf f p (n + 1) = f p + smf f (p + 1) n := rfl
/-- the first of n places from p on that is so; -1 for none -/
def fst1 (P : Nat → Prop) [DecidablePred P] (p : Nat) : Nat → Int
  | 0 => -1
  | n + 1 => if P p then p else fst1 P (p + 1) n
theorem sum_loop {h : HP} {v : Nat} {f : Nat → Int} (e : VIEW h v f) : ∀ (m n : Nat) (acc : Int) (j : Nat), m < n → j + m = 100 → b_X5_sum_4 h v n (zI acc) (zI j) = some (zI (acc + smf f j m)) := by
  obtain ⟨F, e0, e1, e2⟩ := e
  intro m
  induction m with
  | zero =>
    intro n acc j hn hj
    obtain ⟨n, rfl⟩ : ∃ k, n = k + 1 := ⟨n - 1, by omega⟩
    unfold b_X5_sum_4 c_X5_sum_4
    rw [show (100 : Int32) = zI 100 by decide, if_pos ((zI_le (by omega)).mpr (by omega))]
    unfold smf
    rw [Int.add_zero]
  | succ m ih =>
    intro n acc j hn hj
    obtain ⟨n, rfl⟩ : ∃ k, n = k + 1 := ⟨n - 1, by omega⟩
    unfold b_X5_sum_4 c_X5_sum_4
    rw [show (100 : Int32) = zI 100 by decide, if_neg (fun d => absurd ((zI_le (by omega)).mp d) (by omega)), gR_e e0 rfl, Option.bind_some, aI_e e1 (by omega), Option.bind_some, Int.toNat_natCast, e2 j (by omega)]
    simp only [zl1, zI_add]
    have := ih n (acc + f j) (j + 1) (by omega) (by omega)
    rw [show (((j + 1 : Nat)) : Int) = (j : Int) + 1 by omega] at this
    rw [this, smf_succ, Int.add_assoc]
theorem X5_sum_is {h : HP} {v : Nat} {f : Nat → Int} (e : VIEW h v f) : f_X5_sum h v = some (zI (smf f 0 100)) := by
  have h1 := sum_loop e 100 FU 0 0 (by unfold FU; omega) (by omega)
  obtain ⟨F, e0, e1, e2⟩ := e
  unfold f_X5_sum b_X5_sum_0
  rw [Int.zero_add] at h1
  rw [kO_e e0, Option.bind_some, zl0]
  exact h1
theorem seenIn_loop {h : HP} {v : Nat} {f : Nat → Int} (e : VIEW h v f) (hf : ∀ k : Nat, k < 100 → 0 ≤ f k ∧ f k < 1000) {t : Int} (ht : 0 ≤ t ∧ t < 100) : ∀ (m n : Nat) (acc : Int) (j : Nat), m < n → (j : Int) + m = t + 1 → b_X5_seenIn_9 h v (zI t) n (zI acc) (zI j) = some (zI (acc + cnt (fun k => f k ≠ 0) j m)) := by
  obtain ⟨F, e0, e1, e2⟩ := e
  intro m
  induction m with
  | zero =>
    intro n acc j hn hj
    obtain ⟨n, rfl⟩ : ∃ k, n = k + 1 := ⟨n - 1, by omega⟩
    unfold b_X5_seenIn_9 c_X5_seenIn_9
    rw [if_pos ((zI_lt (by omega)).mpr (by omega))]
    unfold cnt
    rw [Int.add_zero]
  | succ m ih =>
    intro n acc j hn hj
    obtain ⟨n, rfl⟩ : ∃ k, n = k + 1 := ⟨n - 1, by omega⟩
    unfold b_X5_seenIn_9 c_X5_seenIn_9
    have hb := hf j (by omega)
    rw [show (100 : Int32) = zI 100 by decide, if_neg (fun d => absurd ((zI_lt (by omega)).mp d) (by omega)), if_neg (fun d => absurd ((zI_le (by omega)).mp d) (by omega)), gR_e e0 rfl, Option.bind_some, aI_e e1 (by omega), Option.bind_some, Int.toNat_natCast, e2 j (by omega)]
    simp only [zl0, zl1, zI_add]
    unfold cnt
    by_cases c : f j = 0
    · rw [if_pos ((zI_inj (by omega)).mpr c), if_neg (by omega)]
      have := ih n acc (j + 1) (by omega) (by omega)
      rw [show (((j + 1 : Nat)) : Int) = (j : Int) + 1 by omega] at this
      rw [this, Int.zero_add]
    · rw [if_neg (fun d => c ((zI_inj (by omega)).mp d)), if_pos c]
      have := ih n (acc + 1) (j + 1) (by omega) (by omega)
      rw [show (((j + 1 : Nat)) : Int) = (j : Int) + 1 by omega] at this
      rw [this, Int.add_assoc]
theorem X5_seenIn_is {h : HP} {v : Nat} {f : Nat → Int} (e : VIEW h v f) (hf : ∀ k : Nat, k < 100 → 0 ≤ f k ∧ f k < 1000) {s t : Int} (hs : 0 ≤ s ∧ s ≤ t) (ht : t < 100) : f_X5_seenIn h v (zI s) (zI t) = some (zI (cnt (fun k => f k ≠ 0) s.toNat (t + 1 - s).toNat)) := by
  have h1 := seenIn_loop e hf (t := t) (by omega) (t + 1 - s).toNat FU 0 s.toNat (by unfold FU; omega) (by omega)
  obtain ⟨F, e0, e1, e2⟩ := e
  unfold f_X5_seenIn b_X5_seenIn_0
  rw [Int.zero_add] at h1
  rw [kO_e e0, Option.bind_some, zl0, zI_jmax (by omega), show max s 0 = ((s.toNat : Nat) : Int) by omega]
  exact h1
theorem firstSeen_loop {h : HP} {v : Nat} {f : Nat → Int} (e : VIEW h v f) (hf : ∀ k : Nat, k < 100 → 0 ≤ f k ∧ f k < 1000) : ∀ (m n : Nat) (j : Nat), m < n → j + m = 100 → b_X5_firstSeen_6 h v n (zI j) = some (zI (fst1 (fun k => f k ≠ 0) j m)) := by
  obtain ⟨F, e0, e1, e2⟩ := e
  intro m
  induction m with
  | zero =>
    intro n j hn hj
    obtain ⟨n, rfl⟩ : ∃ k, n = k + 1 := ⟨n - 1, by omega⟩
    unfold b_X5_firstSeen_6 c_X5_firstSeen_6
    rw [show (100 : Int32) = zI 100 by decide, if_pos ((zI_le (by omega)).mpr (by omega))]
    rfl
  | succ m ih =>
    intro n j hn hj
    obtain ⟨n, rfl⟩ : ∃ k, n = k + 1 := ⟨n - 1, by omega⟩
    unfold b_X5_firstSeen_6 c_X5_firstSeen_6
    have hb := hf j (by omega)
    rw [show (100 : Int32) = zI 100 by decide, if_neg (fun d => absurd ((zI_le (by omega)).mp d) (by omega)), gR_e e0 rfl, Option.bind_some, aI_e e1 (by omega), Option.bind_some, Int.toNat_natCast, e2 j (by omega)]
    simp only [zl0, zl1, zI_add]
    unfold fst1
    by_cases c : f j = 0
    · rw [if_pos ((zI_inj (by omega)).mpr c), if_neg (by omega)]
      have := ih n (j + 1) (by omega) (by omega)
      rw [show (((j + 1 : Nat)) : Int) = (j : Int) + 1 by omega] at this
      rw [this]
    · rw [if_neg (fun d => c ((zI_inj (by omega)).mp d)), if_pos c]
theorem X5_firstSeen_is {h : HP} {v : Nat} {f : Nat → Int} (e : VIEW h v f) (hf : ∀ k : Nat, k < 100 → 0 ≤ f k ∧ f k < 1000) {s : Int} (hs : 0 ≤ s ∧ s < 100) : f_X5_firstSeen h v (zI s) = some (zI (fst1 (fun k => f k ≠ 0) s.toNat (100 - s.toNat))) := by
  have h1 := firstSeen_loop e hf (100 - s.toNat) FU s.toNat (by unfold FU; omega) (by omega)
  obtain ⟨F, e0, e1, e2⟩ := e
  unfold f_X5_firstSeen b_X5_firstSeen_0
  rw [kO_e e0, Option.bind_some, zl0, zI_jmax (by omega), show max s 0 = ((s.toNat : Nat) : Int) by omega]
  exact h1
/-! whether a view sees an entry -/
theorem nfI_rng (ws : List WR) (k m : Int) : -1 ≤ nfI ws k m ∧ nfI ws k m < ws.length := nfD_rng ws k m ws.length
theorem isSeen_loop {h : HP} {cl a cap : Nat} {S : SG} (e : STO h cl a cap S) (hw : WSOK S.1) {M : Int} (hy : YOK S.2.2.1 M) (hl : 0 ≤ S.2.2.2.1 ∧ S.2.2.2.1 ≤ M) (hM : M < 1000000) {j k : Int} (hj : -1000000 < j ∧ j < 1000000) (hk : -1000000 < k ∧ k < 1000000) : ∀ (m n : Nat) (i : Nat), m < n → i + m = S.2.2.1.length + 1 → b_X3_isSeen_11 h a (zI j) n (zI k) (zI ((i : Int) - 1)) = some (tB (∃ q : Nat, q < m ∧ nfI S.1 k (lim S ((i : Int) + q - 1)) = j)) := by
  have hlim : ∀ x : Int, -1000000 < lim S x ∧ lim S x < 1000000 := fun x => by
    unfold lim
    split
    · rename_i c
      have := hy _ (iat_mem c)
      omega
    · omega
  have hL : S.1.length < 1000 ∧ S.2.2.1.length ≤ 2 := by
    obtain ⟨fe, fy, e0, e1, e2, e3, r1, r2, c1, c2⟩ := e
    have := WRS_len e3
    omega
  intro m
  induction m with
  | zero =>
    intro n i hn hi
    obtain ⟨n, rfl⟩ : ∃ k, n = k + 1 := ⟨n - 1, by omega⟩
    have h1 := X3_eyes_is e
    obtain ⟨fe, fy, e0, e1, e2, e3, r1, r2, c1, c2⟩ := e
    unfold b_X3_isSeen_11 c_X3_isSeen_11
    rw [gI_e e0 rfl, Option.bind_some, if_pos ((zI_le (by omega)).mpr (by omega)), tB_0 (fun ⟨q, hq, _⟩ => absurd hq (Nat.not_lt_zero _))]
  | succ m ih =>
    intro n i hn hi
    obtain ⟨n, rfl⟩ : ∃ k, n = k + 1 := ⟨n - 1, by omega⟩
    have h1 := X3_limitOf_is e (i := (i : Int) - 1) (by omega)
    have h2 := X3_newestFor_is e hw hk (hlim ((i : Int) - 1))
    have h3 := ih n (i + 1) (by omega) (by omega)
    have h4 := nfI_rng S.1 k (lim S ((i : Int) - 1))
    rw [show (((i + 1 : Nat)) : Int) = (i : Int) + 1 by omega] at h3
    obtain ⟨fe, fy, e0, e1, e2, e3, r1, r2, c1, c2⟩ := e
    unfold b_X3_isSeen_11 c_X3_isSeen_11
    rw [gI_e e0 rfl, Option.bind_some, if_neg (fun d => absurd ((zI_le (by omega)).mp d) (by omega)), h1, Option.bind_some, h2, Option.bind_some]
    by_cases c : nfI S.1 k (lim S ((i : Int) - 1)) = j
    · rw [if_pos ((zI_inj (by omega)).mpr c), tB_1]
      exact ⟨0, by omega, by rw [show (i : Int) + ((0 : Nat) : Int) - 1 = (i : Int) - 1 by omega]; exact c⟩
    · rw [if_neg (fun d => c ((zI_inj (by omega)).mp d)), zl1, zI_add, show (i : Int) - 1 + 1 = (i : Int) + 1 - 1 by omega, h3]
      refine congrArg some (tB_c ⟨?_, ?_⟩)
      · rintro ⟨q, hq, hh⟩
        refine ⟨q + 1, by omega, ?_⟩
        rw [show (i : Int) + ((q + 1 : Nat) : Int) - 1 = (i : Int) + 1 + q - 1 by omega]
        exact hh
      · rintro ⟨q, hq, hh⟩
        obtain ⟨q, rfl⟩ | rfl : (∃ p, q = p + 1) ∨ q = 0 := by
          cases q with
          | zero => exact Or.inr rfl
          | succ p => exact Or.inl ⟨p, rfl⟩
        · refine ⟨q, by omega, ?_⟩
          rw [show (i : Int) + ((q + 1 : Nat) : Int) - 1 = (i : Int) + 1 + q - 1 by omega] at hh
          exact hh
        · rw [show (i : Int) + ((0 : Nat) : Int) - 1 = (i : Int) - 1 by omega] at hh
          exact absurd hh c
