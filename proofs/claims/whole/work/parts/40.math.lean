/-! the reference: reading of writes, and what is seen -/
theorem rd0 {α : Type} {h : HP} {m : Nat} {S : SG} (e : REF h m S) {j : Int} (hj : 0 ≤ j ∧ j < S.1.length) (G : Int32 → Option α) : ((gR 8 1 h m).bind fun x => (f_X8_of h (zI j) (zI 0)).bind fun y => (aI h x y).bind fun z => G z) = G (zI (wat S.1 j).1) := by
  obtain ⟨v, f, e0, e1, ⟨b1, b2, b3⟩, q0, q1, q2, q3, q4, q5, q6, q7⟩ := e
  have hh := q7 j.toNat (by omega)
  rw [show ((j.toNat : Nat) : Int) = j by omega] at hh
  rw [gR_e e0 rfl, Option.bind_some, X8_of_is, Option.bind_some, aI_e e1 (by omega), Option.bind_some, show (12 + 4 * j + 0).toNat = 12 + 4 * j.toNat by omega, hh.1]
theorem rd1 {α : Type} {h : HP} {m : Nat} {S : SG} (e : REF h m S) {j : Int} (hj : 0 ≤ j ∧ j < S.1.length) (G : Int32 → Option α) : ((gR 8 1 h m).bind fun x => (f_X8_of h (zI j) (zI 1)).bind fun y => (aI h x y).bind fun z => G z) = G (zI (wat S.1 j).2.1) := by
  obtain ⟨v, f, e0, e1, ⟨b1, b2, b3⟩, q0, q1, q2, q3, q4, q5, q6, q7⟩ := e
  have hh := q7 j.toNat (by omega)
  rw [show ((j.toNat : Nat) : Int) = j by omega] at hh
  rw [gR_e e0 rfl, Option.bind_some, X8_of_is, Option.bind_some, aI_e e1 (by omega), Option.bind_some, show (12 + 4 * j + 1).toNat = 13 + 4 * j.toNat by omega, hh.2.1]
theorem rd2 {α : Type} {h : HP} {m : Nat} {S : SG} (e : REF h m S) {j : Int} (hj : 0 ≤ j ∧ j < S.1.length) (G : Int32 → Option α) : ((gR 8 1 h m).bind fun x => (f_X8_of h (zI j) (zI 2)).bind fun y => (aI h x y).bind fun z => G z) = G (zI (wat S.1 j).2.2.1) := by
  obtain ⟨v, f, e0, e1, ⟨b1, b2, b3⟩, q0, q1, q2, q3, q4, q5, q6, q7⟩ := e
  have hh := q7 j.toNat (by omega)
  rw [show ((j.toNat : Nat) : Int) = j by omega] at hh
  rw [gR_e e0 rfl, Option.bind_some, X8_of_is, Option.bind_some, aI_e e1 (by omega), Option.bind_some, show (12 + 4 * j + 2).toNat = 14 + 4 * j.toNat by omega, hh.2.2.1]
theorem rd3 {α : Type} {h : HP} {m : Nat} {S : SG} (e : REF h m S) {j : Int} (hj : 0 ≤ j ∧ j < S.1.length) (G : Int32 → Option α) : ((gR 8 1 h m).bind fun x => (f_X8_of h (zI j) (zI 3)).bind fun y => (aI h x y).bind fun z => G z) = G (zI (wat S.1 j).2.2.2) := by
  obtain ⟨v, f, e0, e1, ⟨b1, b2, b3⟩, q0, q1, q2, q3, q4, q5, q6, q7⟩ := e
  have hh := q7 j.toNat (by omega)
  rw [show ((j.toNat : Nat) : Int) = j by omega] at hh
  rw [gR_e e0 rfl, Option.bind_some, X8_of_is, Option.bind_some, aI_e e1 (by omega), Option.bind_some, show (12 + 4 * j + 3).toNat = 15 + 4 * j.toNat by omega, hh.2.2.2]
theorem X8_concerns_is {h : HP} {m : Nat} {S : SG} (e : REF h m S) (hw : WSOK S.1) {j k : Int} (hj : 0 ≤ j ∧ j < S.1.length) (hk : -2147483648 ≤ k ∧ k < 2147483648) : f_X8_concerns h m (zI j) (zI k) = some (tB ((wat S.1 j).2.1 ≤ k ∧ k ≤ (wat S.1 j).2.2.1)) := by
  have hwj := WOK_at hw hj
  unfold WOK at hwj
  have r1 := fun α => rd1 (α := α) e hj
  have r2 := fun α => rd2 (α := α) e hj
  obtain ⟨v, f, e0, -⟩ := e
  unfold f_X8_concerns b_X8_concerns_0
  rw [kO_e e0, Option.bind_some, zl1, show (2 : Int32) = zI 2 by decide, r1, r2, X8_in_is h hk (by omega) (by omega), Option.bind_some, bz_tB]
theorem X8_isEntry_is {h : HP} {m : Nat} {S : SG} (e : REF h m S) (hw : WSOK S.1) {j : Int} (hj : 0 ≤ j ∧ j < S.1.length) : f_X8_isEntry h m (zI j) = some (tB (0 < (wat S.1 j).2.2.2)) := by
  have hwj := WOK_at hw hj
  unfold WOK at hwj
  have r3 := fun α => rd3 (α := α) e hj
  obtain ⟨v, f, e0, -⟩ := e
  unfold f_X8_isEntry b_X8_isEntry_0
  rw [kO_e e0, Option.bind_some, show (3 : Int32) = zI 3 by decide, r3, zl0]
  by_cases c : (wat S.1 j).2.2.2 ≤ 0
  · rw [if_pos ((zI_le (by omega)).mpr c), tB_0 (by omega)]
    rfl
  · rw [if_neg (fun d => c ((zI_le (by omega)).mp d)), tB_1 (by omega)]
/-- writes stand in the order of their numbers; of one number they are apart, in the order of their keys -/
def ORD (ws : List WR) : Prop := ∀ i j : Nat, i < j → j < ws.length → (wat ws i).1 < (wat ws j).1 ∨ ((wat ws i).1 = (wat ws j).1 ∧ (wat ws i).2.2.1 < (wat ws j).2.1)
theorem ORD_N {ws : List WR} (H : ORD ws) : NSRT ws := fun i j h1 h2 => by
  have := H i j h1 h2
  omega
theorem nfD_some {ws : List WR} {k m : Int} : ∀ {n : Nat}, nfD ws k m n ≠ -1 → (wat ws (nfD ws k m n)).1 ≤ m ∧ (wat ws (nfD ws k m n)).2.1 ≤ k ∧ k ≤ (wat ws (nfD ws k m n)).2.2.1 := by
  intro n
  induction n with
  | zero => exact fun h => absurd rfl h
  | succ n ih =>
    rw [nfD_succ]
    by_cases c : (wat ws n).1 ≤ m ∧ (wat ws n).2.1 ≤ k ∧ k ≤ (wat ws n).2.2.1
    · rw [if_pos c]
      exact fun _ => c
    · rw [if_neg c]
      exact ih
theorem newest_loop {h : HP} {m : Nat} {S : SG} (e : REF h m S) (hw : WSOK S.1) (ho : ORD S.1) {k M : Int} (hk : -1000000 < k ∧ k < 1000000) (hM : -1000000 < M ∧ M < 1000000) : ∀ (r n : Nat) (j : Nat), r < n → j + r = S.1.length → b_X8_newest_5 h m (zI k) (zI M) n (zI (nfD S.1 k M j)) (zI j) = some (zI (nfI S.1 k M)) := by
  have hb : S.1.length ≤ 48 := by
    obtain ⟨v, f, e0, e1, ⟨b1, b2, b3⟩, r⟩ := e
    exact b2
  intro r
  induction r with
  | zero =>
    intro n j hn hj
    obtain ⟨n, rfl⟩ : ∃ k, n = k + 1 := ⟨n - 1, by omega⟩
    unfold b_X8_newest_5 c_X8_newest_5
    rw [X8_all_is e, Option.bind_some, if_pos ((zI_le (by omega)).mpr (by omega))]
    unfold nfI
    rw [show S.1.length = j by omega]
  | succ r ih =>
    intro n j hn hj
    obtain ⟨n, rfl⟩ : ∃ k, n = k + 1 := ⟨n - 1, by omega⟩
    have hi := ih n (j + 1) (by omega) (by omega)
    rw [show (((j + 1 : Nat)) : Int) = (j : Int) + 1 by omega, nfD_succ] at hi
    have hwj := WOK_at hw (j := j) (by omega)
    unfold WOK at hwj
    have hg := nfD_rng S.1 k M j
    unfold b_X8_newest_5 c_X8_newest_5
    simp only [zl0]
    rw [X8_all_is e, Option.bind_some, if_neg (fun d => absurd ((zI_le (by omega)).mp d) (by omega)), X8_concerns_is e hw (by omega) (by omega), Option.bind_some]
    have hF : b_X8_newest_44 h m (zI k) (zI M) (b_X8_newest_5 h m (zI k) (zI M) n) (zI (nfD S.1 k M j)) (zI j) (zI 0) = b_X8_newest_5 h m (zI k) (zI M) n (zI (nfD S.1 k M j)) (zI (j + 1)) := by
      unfold b_X8_newest_44
      rw [if_pos (by decide), zl1, zI_add]
    by_cases c : (wat S.1 j).2.1 ≤ k ∧ k ≤ (wat S.1 j).2.2.1
    · rw [tB_1 c, if_neg (by decide), rd0 e (by omega)]
      by_cases c2 : M < (wat S.1 j).1
      · rw [if_pos ((zI_lt (by omega)).mpr c2), hF]
        rw [if_neg (by omega)] at hi
        exact hi
      · rw [if_neg (fun d => c2 ((zI_lt (by omega)).mp d))]
        rw [if_pos (by omega)] at hi
        unfold b_X8_newest_44
        simp only [zl0, zl1, zI_neg, zI_add]
        rw [if_neg (by decide)]
        by_cases c3 : nfD S.1 k M j = -1
        · rw [if_pos ((zI_inj (by omega)).mpr c3)]
          exact hi
        · have h5 := nfD_some c3
          have h6 := ho (nfD S.1 k M j).toNat j (by omega) (by omega)
          rw [show (((nfD S.1 k M j).toNat : Nat) : Int) = nfD S.1 k M j by omega] at h6
          have h7 := WOK_at hw (j := nfD S.1 k M j) (by omega)
          unfold WOK at h7
          rw [if_neg (fun d => c3 ((zI_inj (by omega)).mp d)), rd0 e (by omega), rd0 e (by omega), if_neg (fun d => absurd ((zI_le (by omega)).mp d) (by omega))]
          exact hi
    · rw [tB_0 c, if_pos (by decide), hF]
      rw [if_neg (by omega)] at hi
      exact hi
theorem X8_newest_is {h : HP} {m : Nat} {S : SG} (e : REF h m S) (hw : WSOK S.1) (ho : ORD S.1) {k M : Int} (hk : -1000000 < k ∧ k < 1000000) (hM : -1000000 < M ∧ M < 1000000) : f_X8_newest h m (zI k) (zI M) = some (zI (nfI S.1 k M)) := by
  have hb : S.1.length ≤ 48 := by
    obtain ⟨v, f, e0, e1, ⟨b1, b2, b3⟩, r⟩ := e
    exact b2
  have h1 := newest_loop e hw ho hk hM S.1.length FU 0 (by unfold FU; omega) (by omega)
  obtain ⟨v, f, e0, -⟩ := e
  unfold f_X8_newest b_X8_newest_0
  rw [kO_e e0, Option.bind_some, zl0, zl1, zI_neg]
  exact h1
theorem X8_upTo_is {h : HP} {m : Nat} {S : SG} (e : REF h m S) {x : Int} (hx : -1 ≤ x ∧ x < S.2.2.1.length) : f_X8_upTo h m (zI x) = some (zI (lim S x)) := by
  obtain ⟨v, f, e0, e1, ⟨b1, b2, b3⟩, q0, q1, q2, q3, q4, q5, q6, q7⟩ := e
  unfold f_X8_upTo b_X8_upTo_0 lim
  have h0 := aI_e e1 (z := 10) (by omega)
  rw [kO_e e0, Option.bind_some, zl1, zI_neg, show (10 : Int32) = zI 10 by decide, show (8 : Int32) = zI 8 by decide]
  by_cases c : x = -1
  · rw [if_pos ((zI_inj (by omega)).mpr c), gR_e e0 rfl, Option.bind_some, h0, Option.bind_some, show f (10 : Int).toNat = _ from q5, if_neg (by omega)]
  · have h1 := q4 x.toNat (by omega)
    rw [show ((x.toNat : Nat) : Int) = x by omega] at h1
    rw [if_neg (fun d => c ((zI_inj (by omega)).mp d)), gR_e e0 rfl, Option.bind_some, zI_add, aI_e e1 (by omega), Option.bind_some, show (8 + x).toNat = 8 + x.toNat by omega, h1, if_pos (by omega)]
/-- the value that a view sees for a key; 0 for nothing -/
def vw (S : SG) (k x : Int) : Int := (wat S.1 (nfI S.1 k (lim S x))).2.2.2
theorem lim_rng {S : SG} {M : Int} (hy : YOK S.2.2.1 M) (hl : 0 ≤ S.2.2.2.1 ∧ S.2.2.2.1 ≤ M) (x : Int) : 0 ≤ lim S x ∧ lim S x ≤ M := by
  unfold lim
  split
  · rename_i c
    exact hy _ (iat_mem c)
  · exact hl
theorem wat_v {ws : List WR} (hw : WSOK ws) (j : Int) : 0 ≤ (wat ws j).2.2.2 ∧ (wat ws j).2.2.2 < 1000 := by
  by_cases c : 0 ≤ j ∧ j < ws.length
  · exact (WOK_at hw c).2.2
  · rw [wat_out (by omega)]
    decide
theorem X8_seen_is {h : HP} {m : Nat} {S : SG} (e : REF h m S) (hw : WSOK S.1) (ho : ORD S.1) {M : Int} (hy : YOK S.2.2.1 M) (hl : 0 ≤ S.2.2.2.1 ∧ S.2.2.2.1 ≤ M) (hM : M < 1000000) {k x : Int} (hk : -1000000 < k ∧ k < 1000000) (hx : -1 ≤ x ∧ x < S.2.2.1.length) : f_X8_seen h m (zI k) (zI x) = some (zI (if vw S k x = 0 then -1 else vw S k x)) := by
  have hr := lim_rng hy hl x
  have h1 := X8_upTo_is e hx
  have h2 := X8_newest_is e hw ho hk (M := lim S x) (by omega)
  have hg := nfI_rng S.1 k (lim S x)
  have hv := wat_v hw (nfI S.1 k (lim S x))
  have hb : S.1.length ≤ 48 := by
    obtain ⟨v, f, e0, e1, ⟨b1, b2, b3⟩, r⟩ := e
    exact b2
  have hk0 : kO 8 h m = some () := by
    obtain ⟨v, f, e0, -⟩ := e
    exact kO_e e0
  unfold f_X8_seen b_X8_seen_0 vw
  simp only [zl1, zI_neg, show (3 : Int32) = zI 3 by decide]
  rw [hk0, Option.bind_some, h1, Option.bind_some, h2, Option.bind_some]
  by_cases c : nfI S.1 k (lim S x) = -1
  · rw [if_pos ((zI_inj (by omega)).mpr c), if_pos]
    rw [c]
    rfl
  · rw [if_neg (fun d => c ((zI_inj (by omega)).mp d)), X8_isEntry_is e hw (by omega), Option.bind_some]
    by_cases c2 : 0 < (wat S.1 (nfI S.1 k (lim S x))).2.2.2
    · rw [tB_1 c2, if_neg (by decide), rd3 e (by omega), if_neg (by omega)]
    · rw [tB_0 c2, if_pos (by decide), if_pos (by omega)]
theorem countSeen_loop {h : HP} {m : Nat} {S : SG} (e : REF h m S) (hw : WSOK S.1) (ho : ORD S.1) {M : Int} (hy : YOK S.2.2.1 M) (hl : 0 ≤ S.2.2.2.1 ∧ S.2.2.2.1 ≤ M) (hM : M < 1000000) {t x : Int} (ht : 0 ≤ t ∧ t < 100) (hx : -1 ≤ x ∧ x < S.2.2.1.length) : ∀ (r n : Nat) (acc : Int) (j : Nat), r < n → (j : Int) + r = t + 1 → b_X8_countSeen_6 h m (zI t) (zI x) n (zI acc) (zI j) = some (zI (acc + cnt (fun k => vw S k x ≠ 0) j r)) := by
  intro r
  induction r with
  | zero =>
    intro n acc j hn hj
    obtain ⟨n, rfl⟩ : ∃ k, n = k + 1 := ⟨n - 1, by omega⟩
    unfold b_X8_countSeen_6 c_X8_countSeen_6
    rw [if_pos ((zI_lt (by omega)).mpr (by omega))]
    unfold cnt
    rw [Int.add_zero]
  | succ r ih =>
    intro n acc j hn hj
    obtain ⟨n, rfl⟩ : ∃ k, n = k + 1 := ⟨n - 1, by omega⟩
    have hv := wat_v hw (nfI S.1 j (lim S x))
    unfold b_X8_countSeen_6 c_X8_countSeen_6
    rw [if_neg (fun d => absurd ((zI_lt (by omega)).mp d) (by omega)), X8_seen_is e hw ho hy hl hM (by omega) hx, Option.bind_some]
    simp only [zl0, zl1, zI_neg, zI_add]
    unfold cnt
    by_cases c : vw S j x = 0
    · rw [if_pos c, if_pos rfl, if_neg (by omega)]
      have := ih n (acc + 0) (j + 1) (by omega) (by omega)
      rw [show (((j + 1 : Nat)) : Int) = (j : Int) + 1 by omega] at this
      rw [this, Int.add_zero, Int.zero_add]
    · have hc : 0 ≤ vw S j x ∧ vw S j x < 1000 := hv
      rw [if_neg c, if_neg (fun d => absurd ((zI_inj (by omega)).mp d) (by omega)), if_pos c]
      have := ih n (acc + 1) (j + 1) (by omega) (by omega)
      rw [show (((j + 1 : Nat)) : Int) = (j : Int) + 1 by omega] at this
      rw [this, Int.add_assoc]
theorem X8_countSeen_is {h : HP} {m : Nat} {S : SG} (e : REF h m S) (hw : WSOK S.1) (ho : ORD S.1) {M : Int} (hy : YOK S.2.2.1 M) (hl : 0 ≤ S.2.2.2.1 ∧ S.2.2.2.1 ≤ M) (hM : M < 1000000) {s t x : Int} (hs : 0 ≤ s ∧ s ≤ t) (ht : t < 100) (hx : -1 ≤ x ∧ x < S.2.2.1.length) : f_X8_countSeen h m (zI s) (zI t) (zI x) = some (zI (cnt (fun k => vw S k x ≠ 0) s.toNat (t + 1 - s).toNat)) := by
  have h1 := countSeen_loop e hw ho hy hl hM (t := t) (by omega) hx (t + 1 - s).toNat FU 0 s.toNat (by unfold FU; omega) (by omega)
  have hk0 : kO 8 h m = some () := by
    obtain ⟨v, f, e0, -⟩ := e
    exact kO_e e0
  unfold f_X8_countSeen b_X8_countSeen_0
  rw [hk0, Option.bind_some, zl0]
  rw [Int.zero_add, show ((s.toNat : Nat) : Int) = s by omega] at h1
  exact h1
