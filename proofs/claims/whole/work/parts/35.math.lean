/-! reading loops of the store -/
theorem wcon_dec (w : WR) (k : Int) : wcon w k ↔ w.2.1 ≤ k ∧ k ≤ w.2.2.1 := Iff.rfl
/-- the newest write of the first n that concerns a key, up to a number -/
def nfD (ws : List WR) (k m : Int) : Nat → Int
  | 0 => -1
  | n + 1 => if (wat ws n).1 ≤ m ∧ (wat ws n).2.1 ≤ k ∧ k ≤ (wat ws n).2.2.1 then n else nfD ws k m n
def nfI (ws : List WR) (k m : Int) : Int := nfD ws k m ws.length
theorem nfD_rng (ws : List WR) (k m : Int) (n : Nat) : -1 ≤ nfD ws k m n ∧ nfD ws k m n < n := by
  induction n with
  | zero =>
    unfold nfD
    omega
  | succ n ih =>
    unfold nfD
    split <;> omega
theorem WOK_at {ws : List WR} (H : WSOK ws) {j : Int} (h : 0 ≤ j ∧ j < ws.length) : WOK (wat ws j) := H _ (wat_mem h)
theorem WSOK_v {ws : List WR} (H : WSOK ws) : ∀ w ∈ ws, 0 ≤ w.2.2.2 ∧ w.2.2.2 < 1000 := fun w hw => (H w hw).2.2
theorem WSOK_k {ws : List WR} (H : WSOK ws) : ∀ w ∈ ws, 0 ≤ w.2.1 ∧ w.2.1 < 1000 ∧ 0 ≤ w.2.2.1 ∧ w.2.2.1 < 1000 := fun w hw => by
  have := (H w hw).2.1
  omega
theorem entriesIn_loop {h : HP} {cl a cap : Nat} {S : SG} (e : STO h cl a cap S) (hw : WSOK S.1) {to : Nat} (ht : to < 100000) : ∀ (m n : Nat) (acc : Int) (j : Nat), m < n → j + m = to → b_X3_entriesIn_5 h a (zI to) n (zI acc) (zI j) = some (zI (acc + cnt (fun i => 0 < (wat S.1 i).2.2.2) j m)) := by
  obtain ⟨fe, fy, e0, e1, e2, e3, r1, r2, c1, c2⟩ := e
  intro m
  induction m with
  | zero =>
    intro n acc j hn hj
    obtain ⟨n, rfl⟩ : ∃ k, n = k + 1 := ⟨n - 1, by omega⟩
    unfold b_X3_entriesIn_5 c_X3_entriesIn_5
    rw [if_pos ((zI_le (by omega)).mpr (by omega))]
    unfold cnt
    rw [Int.add_zero]
  | succ m ih =>
    intro n acc j hn hj
    obtain ⟨n, rfl⟩ : ∃ k, n = k + 1 := ⟨n - 1, by omega⟩
    unfold b_X3_entriesIn_5 c_X3_entriesIn_5
    rw [if_neg (fun d => absurd ((zI_le (by omega)).mp d) (by omega)), gR_e e0 rfl, Option.bind_some, X6_isEntry_is e3 (by omega) (WSOK_v hw), Option.bind_some]
    unfold cnt
    simp only [zl1, zI_add]
    by_cases h1 : 0 < (wat S.1 j).2.2.2
    · rw [tB_1 h1, if_neg (by decide), if_pos h1]
      have := ih n (acc + 1) (j + 1) (by omega) (by omega)
      rw [show (((j + 1 : Nat)) : Int) = (j : Int) + 1 by omega] at this
      rw [this, Int.add_assoc]
    · rw [tB_0 h1, if_pos rfl, if_neg h1]
      have := ih n acc (j + 1) (by omega) (by omega)
      rw [show (((j + 1 : Nat)) : Int) = (j : Int) + 1 by omega] at this
      rw [this, Int.zero_add]
theorem X3_entriesIn_is {h : HP} {cl a cap : Nat} {S : SG} (e : STO h cl a cap S) (hw : WSOK S.1) {p m : Nat} (ht : p + m < 4000) : f_X3_entriesIn h a (zI p) (zI (p + m : Nat)) = some (zI (cnt (fun i => 0 < (wat S.1 i).2.2.2) p m)) := by
  have h1 := entriesIn_loop e hw (to := p + m) (by omega) m FU 0 p (by unfold FU; omega) rfl
  obtain ⟨fe, fy, e0, e1, e2, e3, r1, r2, c1, c2⟩ := e
  unfold f_X3_entriesIn b_X3_entriesIn_0
  rw [kO_e e0, Option.bind_some, zl0, h1, Int.zero_add]
theorem eyesBefore_loop {h : HP} {cl a cap : Nat} {S : SG} (e : STO h cl a cap S) {M : Int} (hy : YOK S.2.2.1 M) (hM : M < 1000000) {num : Int} (hn : -1000000 < num ∧ num < 1000000) : ∀ (m n : Nat) (acc : Int) (j : Nat), m < n → j + m = S.2.2.1.length → b_X3_eyesBefore_4 h a (zI num) n (zI acc) (zI j) = some (zI (acc + cnt (fun i => iat S.2.2.1 i < num) j m)) := by
  obtain ⟨fe, fy, e0, e1, e2, e3, r1, r2, c1, c2⟩ := e
  intro m
  induction m with
  | zero =>
    intro n acc j hn hj
    obtain ⟨n, rfl⟩ : ∃ k, n = k + 1 := ⟨n - 1, by omega⟩
    unfold b_X3_eyesBefore_4 c_X3_eyesBefore_4
    rw [gI_e e0 rfl, Option.bind_some, if_pos ((zI_le (by omega)).mpr (by omega))]
    unfold cnt
    rw [Int.add_zero]
  | succ m ih =>
    intro n acc j hn hj
    obtain ⟨n, rfl⟩ : ∃ k, n = k + 1 := ⟨n - 1, by omega⟩
    unfold b_X3_eyesBefore_4 c_X3_eyesBefore_4
    have hm := hy _ (iat_mem (l := S.2.2.1) (j := j) (by omega))
    rw [gI_e e0 rfl, Option.bind_some, if_neg (fun d => absurd ((zI_le (by omega)).mp d) (by omega)), gR_e e0 rfl, Option.bind_some, aI_e e2 (by omega), Option.bind_some, CLU_at c2 (by omega)]
    unfold cnt
    simp only [zl1, zI_add]
    by_cases h1 : iat S.2.2.1 j < num
    · rw [if_neg (fun d => absurd ((zI_le (by omega)).mp d) (by omega)), if_pos h1]
      have := ih n (acc + 1) (j + 1) (by omega) (by omega)
      rw [show (((j + 1 : Nat)) : Int) = (j : Int) + 1 by omega] at this
      rw [this, Int.add_assoc]
    · rw [if_pos ((zI_le (by omega)).mpr (by omega)), if_neg h1]
      have := ih n acc (j + 1) (by omega) (by omega)
      rw [show (((j + 1 : Nat)) : Int) = (j : Int) + 1 by omega] at this
      rw [this, Int.zero_add]
/-- how many eyes lie before a number -/
def eB (ys : List Int) (num : Int) : Int := cnt (fun i => iat ys i < num) 0 ys.length
theorem X3_eyesBefore_is {h : HP} {cl a cap : Nat} {S : SG} (e : STO h cl a cap S) {M : Int} (hy : YOK S.2.2.1 M) (hM : M < 1000000) {num : Int} (hn : -1000000 < num ∧ num < 1000000) : f_X3_eyesBefore h a (zI num) = some (zI (eB S.2.2.1 num)) := by
  have hl : S.2.2.1.length ≤ 2 := by
    obtain ⟨fe, fy, e0, e1, e2, e3, r1, r2, c1, c2⟩ := e
    exact r2
  have h1 := eyesBefore_loop e hy hM hn S.2.2.1.length FU 0 0 (by unfold FU; omega) (by omega)
  obtain ⟨fe, fy, e0, e1, e2, e3, r1, r2, c1, c2⟩ := e
  unfold f_X3_eyesBefore b_X3_eyesBefore_0
  rw [Int.zero_add] at h1
  rw [kO_e e0, Option.bind_some, zl0]
  exact h1
theorem newestFor_loop {h : HP} {cl a cap : Nat} {S : SG} (e : STO h cl a cap S) (hw : WSOK S.1) {k m : Int} (hk : -1000000 < k ∧ k < 1000000) (hm : -1000000 < m ∧ m < 1000000) : ∀ (j n : Nat), j < n → j ≤ S.1.length → b_X3_newestFor_10 h a (zI k) (zI m) n (zI ((j : Int) - 1)) = some (zI (nfD S.1 k m j)) := by
  have hL : S.1.length < 1000 := by
    obtain ⟨fe, fy, e0, e1, e2, e3, r1, r2, c1, c2⟩ := e
    have := WRS_len e3
    omega
  obtain ⟨fe, fy, e0, e1, e2, e3, r1, r2, c1, c2⟩ := e
  intro j
  induction j with
  | zero =>
    intro n hn hj
    obtain ⟨n, rfl⟩ : ∃ k, n = k + 1 := ⟨n - 1, by omega⟩
    unfold b_X3_newestFor_10 c_X3_newestFor_10
    rw [zl0, if_pos ((zI_lt (by omega)).mpr (by omega))]
    rfl
  | succ j ih =>
    intro n hn hj
    obtain ⟨n, rfl⟩ : ∃ k, n = k + 1 := ⟨n - 1, by omega⟩
    have hwj := WOK_at hw (j := j) (by omega)
    have hi := ih n (by omega) (by omega)
    unfold WOK at hwj
    unfold b_X3_newestFor_10 c_X3_newestFor_10 nfD
    rw [show (((j + 1 : Nat)) : Int) - 1 = (j : Int) by omega]
    simp only [zl0, zl1, zI_neg, zI_add]
    rw [if_neg (fun d => absurd ((zI_lt (by omega)).mp d) (by omega)), gR_e e0 rfl, Option.bind_some, X6_numberAt_is e3 (by omega), Option.bind_some, Option.bind_some, X6_concerns_is e3 (by omega) hk (WSOK_k hw), Option.bind_some, show (j : Int) + -1 = (j : Int) - 1 by omega, hi]
    by_cases h1 : m < (wat S.1 j).1
    · rw [if_pos ((zI_lt (by omega)).mpr h1), if_neg (by omega)]
    · rw [if_neg (fun d => h1 ((zI_lt (by omega)).mp d))]
      by_cases h2 : (wat S.1 j).2.1 ≤ k ∧ k ≤ (wat S.1 j).2.2.1
      · rw [tB_1 (by omega), if_neg (by decide), if_pos (by omega)]
      · rw [tB_0 (by omega), if_pos (by decide), if_neg (by omega)]
theorem X3_newestFor_is {h : HP} {cl a cap : Nat} {S : SG} (e : STO h cl a cap S) (hw : WSOK S.1) {k m : Int} (hk : -1000000 < k ∧ k < 1000000) (hm : -1000000 < m ∧ m < 1000000) : f_X3_newestFor h a (zI k) (zI m) = some (zI (nfI S.1 k m)) := by
  have hL : S.1.length < 1000 := by
    obtain ⟨fe, fy, e0, e1, e2, e3, r1, r2, c1, c2⟩ := e
    have := WRS_len e3
    omega
  have h1 := newestFor_loop e hw hk hm S.1.length FU (by unfold FU; omega) (Nat.le_refl _)
  obtain ⟨fe, fy, e0, e1, e2, e3, r1, r2, c1, c2⟩ := e
  unfold f_X3_newestFor b_X3_newestFor_0
  rw [kO_e e0, Option.bind_some, gR_e e0 rfl, Option.bind_some, X6_size_is e3, Option.bind_some, zl1, zI_sub]
  exact h1
theorem X3_valueFor_is {h : HP} {cl a cap : Nat} {S : SG} (e : STO h cl a cap S) (hw : WSOK S.1) {k m : Int} (hk : -1000000 < k ∧ k < 1000000) (hm : -1000000 < m ∧ m < 1000000) : f_X3_valueFor h a (zI k) (zI m) = some (zI (wat S.1 (nfI S.1 k m)).2.2.2) := by
  have hL : S.1.length < 1000 := by
    obtain ⟨fe, fy, e0, e1, e2, e3, r1, r2, c1, c2⟩ := e
    have := WRS_len e3
    omega
  have h1 := X3_newestFor_is e hw hk hm
  have h2 := nfD_rng S.1 k m S.1.length
  obtain ⟨fe, fy, e0, e1, e2, e3, r1, r2, c1, c2⟩ := e
  unfold f_X3_valueFor b_X3_valueFor_0
  rw [kO_e e0, Option.bind_some, gR_e e0 rfl, Option.bind_some, h1, Option.bind_some, X6_valueAt_is e3 (by unfold nfI; omega), Option.bind_some]
