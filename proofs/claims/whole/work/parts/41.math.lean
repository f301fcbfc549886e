/-! the reference: numbers of what there is -/
theorem REF_b {h : HP} {m : Nat} {S : SG} (e : REF h m S) : (S.2.1.length ≤ 5 ∧ S.1.length ≤ 48 ∧ S.2.2.1.length ≤ 2) ∧ kO 8 h m = some () := by
  obtain ⟨v, f, e0, e1, b, r⟩ := e
  exact ⟨b, kO_e e0⟩
theorem cnt_succ (P : Nat → Prop) [DecidablePred P] (p n : Nat) : cnt P p (n + 1) = (if P p then 1 else 0) + cnt P (p + 1) n := rfl
theorem fst1_succ (P : Nat → Prop) [DecidablePred P] (p n : Nat) : fst1 P p (n + 1) = if P p then (p : Int) else fst1 P (p + 1) n := rfl
theorem cast1 (j : Nat) : (((j + 1 : Nat)) : Int) = (j : Int) + 1 := by omega
theorem kinds_loop {h : HP} {m : Nat} {S : SG} (e : REF h m S) (hw : WSOK S.1) {to : Nat} (ht : to ≤ S.1.length) (b : Bool) : ∀ (r n : Nat) (acc : Int) (j : Nat), r < n → j + r = to → b_X8_kinds_6 h m (zI to) (tB (b = true)) n (zI acc) (zI j) = some (zI (acc + cnt (fun i => (0 < (wat S.1 i).2.2.2) ↔ b = true) j r)) := by
  have hb := REF_b e
  intro r
  induction r with
  | zero =>
    intro n acc j hn hj
    obtain ⟨n, rfl⟩ : ∃ k, n = k + 1 := ⟨n - 1, by omega⟩
    unfold b_X8_kinds_6 c_X8_kinds_6
    rw [if_pos ((zI_le (by omega)).mpr (by omega))]
    unfold cnt
    rw [Int.add_zero]
  | succ r ih =>
    intro n acc j hn hj
    obtain ⟨n, rfl⟩ : ∃ k, n = k + 1 := ⟨n - 1, by omega⟩
    have h1 := ih n (acc + 1) (j + 1) (by omega) (by omega)
    have h2 := ih n (acc + 0) (j + 1) (by omega) (by omega)
    rw [cast1] at h1 h2
    unfold b_X8_kinds_6 c_X8_kinds_6
    rw [if_neg (fun d => absurd ((zI_le (by omega)).mp d) (by omega)), X8_isEntry_is e hw (by omega), Option.bind_some]
    simp only [zl0, zl1, zI_add]
    rw [h1, h2, cnt_succ]
    cases b with
    | true =>
      by_cases c : 0 < (wat S.1 j).2.2.2
      · rw [tB_1 c, tB_1 rfl, if_pos rfl, if_pos ⟨fun _ => rfl, fun _ => c⟩, Int.add_assoc]
      · rw [tB_0 c, tB_1 rfl, if_neg (by decide), if_neg (fun d => c (d.mpr rfl)), Int.add_zero, Int.zero_add]
    | false =>
      by_cases c : 0 < (wat S.1 j).2.2.2
      · rw [tB_1 c, tB_0 (by decide), if_neg (by decide), if_neg (fun d => absurd (d.mp c) (by decide)), Int.add_zero, Int.zero_add]
      · rw [tB_0 c, tB_0 (by decide), if_pos rfl, if_pos ⟨fun d => absurd d c, fun d => absurd d (by decide)⟩, Int.add_assoc]
theorem X8_kinds_is {h : HP} {m : Nat} {S : SG} (e : REF h m S) (hw : WSOK S.1) {p r : Nat} (ht : p + r ≤ S.1.length) (b : Bool) : f_X8_kinds h m (zI p) (zI (p + r : Nat)) (tB (b = true)) = some (zI (cnt (fun i => (0 < (wat S.1 i).2.2.2) ↔ b = true) p r)) := by
  have hb := REF_b e
  have h1 := kinds_loop e hw ht b r FU 0 p (by unfold FU; omega) rfl
  unfold f_X8_kinds b_X8_kinds_0
  rw [hb.2, Option.bind_some, zl0, h1, Int.zero_add]
theorem sumSeen_loop {h : HP} {m : Nat} {S : SG} (e : REF h m S) (hw : WSOK S.1) (ho : ORD S.1) {M : Int} (hy : YOK S.2.2.1 M) (hl : 0 ≤ S.2.2.2.1 ∧ S.2.2.2.1 ≤ M) (hM : M < 1000000) : ∀ (r n : Nat) (acc : Int) (j : Nat), r < n → j + r = 100 → b_X8_sumSeen_4 h m n (zI acc) (zI j) = some (zI (acc + smf (fun k => vw S k (-1)) j r)) := by
  intro r
  induction r with
  | zero =>
    intro n acc j hn hj
    obtain ⟨n, rfl⟩ : ∃ k, n = k + 1 := ⟨n - 1, by omega⟩
    unfold b_X8_sumSeen_4 c_X8_sumSeen_4
    rw [show (100 : Int32) = zI 100 by decide, if_pos ((zI_le (by omega)).mpr (by omega))]
    unfold smf
    rw [Int.add_zero]
  | succ r ih =>
    intro n acc j hn hj
    obtain ⟨n, rfl⟩ : ∃ k, n = k + 1 := ⟨n - 1, by omega⟩
    have hc : 0 ≤ vw S j (-1) ∧ vw S j (-1) < 1000 := wat_v hw (nfI S.1 j (lim S (-1)))
    have h1 := ih n (acc + vw S j (-1)) (j + 1) (by omega) (by omega)
    have h2 := ih n (acc + 0) (j + 1) (by omega) (by omega)
    rw [cast1] at h1 h2
    unfold b_X8_sumSeen_4 c_X8_sumSeen_4
    simp only [zl0, zl1, zI_neg, show (100 : Int32) = zI 100 by decide]
    rw [if_neg (fun d => absurd ((zI_le (by omega)).mp d) (by omega)), X8_seen_is e hw ho hy hl hM (by omega) (by omega), Option.bind_some, smf_succ]
    simp only [zI_add]
    by_cases c : vw S j (-1) = 0
    · rw [if_pos c, if_pos rfl, h2, c, Int.add_zero, Int.zero_add]
    · rw [if_neg c, if_neg (fun d => absurd ((zI_inj (by omega)).mp d) (by omega)), h1, Int.add_assoc]
theorem X8_sumSeen_is {h : HP} {m : Nat} {S : SG} (e : REF h m S) (hw : WSOK S.1) (ho : ORD S.1) {M : Int} (hy : YOK S.2.2.1 M) (hl : 0 ≤ S.2.2.2.1 ∧ S.2.2.2.1 ≤ M) (hM : M < 1000000) : f_X8_sumSeen h m = some (zI (smf (fun k => vw S k (-1)) 0 100)) := by
  have h1 := sumSeen_loop e hw ho hy hl hM 100 FU 0 0 (by unfold FU; omega) (by omega)
  unfold f_X8_sumSeen b_X8_sumSeen_0
  rw [(REF_b e).2, Option.bind_some, zl0]
  rw [Int.zero_add] at h1
  exact h1
theorem nextSeen_loop {h : HP} {m : Nat} {S : SG} (e : REF h m S) (hw : WSOK S.1) (ho : ORD S.1) {M : Int} (hy : YOK S.2.2.1 M) (hl : 0 ≤ S.2.2.2.1 ∧ S.2.2.2.1 ≤ M) (hM : M < 1000000) {x : Int} (hx : -1 ≤ x ∧ x < S.2.2.1.length) : ∀ (r n : Nat) (j : Nat), r < n → j + r = 100 → b_X8_nextSeen_2 h m (zI x) n (zI j) = some (zI (fst1 (fun k => vw S k x ≠ 0) j r)) := by
  intro r
  induction r with
  | zero =>
    intro n j hn hj
    obtain ⟨n, rfl⟩ : ∃ k, n = k + 1 := ⟨n - 1, by omega⟩
    unfold b_X8_nextSeen_2 c_X8_nextSeen_2
    rw [show (100 : Int32) = zI 100 by decide, if_pos ((zI_le (by omega)).mpr (by omega))]
    rfl
  | succ r ih =>
    intro n j hn hj
    obtain ⟨n, rfl⟩ : ∃ k, n = k + 1 := ⟨n - 1, by omega⟩
    have hc : 0 ≤ vw S j x ∧ vw S j x < 1000 := wat_v hw (nfI S.1 j (lim S x))
    have h1 := ih n (j + 1) (by omega) (by omega)
    rw [cast1] at h1
    unfold b_X8_nextSeen_2 c_X8_nextSeen_2
    simp only [zl1, zI_neg, show (100 : Int32) = zI 100 by decide, zI_add]
    rw [if_neg (fun d => absurd ((zI_le (by omega)).mp d) (by omega)), X8_seen_is e hw ho hy hl hM (by omega) hx, Option.bind_some, fst1_succ, h1]
    by_cases c : vw S j x = 0
    · rw [if_pos c, if_pos rfl, if_neg (by omega)]
    · rw [if_neg c, if_neg (fun d => absurd ((zI_inj (by omega)).mp d) (by omega)), if_pos c]
theorem X8_nextSeen_is {h : HP} {m : Nat} {S : SG} (e : REF h m S) (hw : WSOK S.1) (ho : ORD S.1) {M : Int} (hy : YOK S.2.2.1 M) (hl : 0 ≤ S.2.2.2.1 ∧ S.2.2.2.1 ≤ M) (hM : M < 1000000) {x : Int} (hx : -1 ≤ x ∧ x < S.2.2.1.length) {s : Int} (hs : 0 ≤ s ∧ s < 100) : f_X8_nextSeen h m (zI s) (zI x) = some (zI (fst1 (fun k => vw S k x ≠ 0) s.toNat (100 - s.toNat))) := by
  have h1 := nextSeen_loop e hw ho hy hl hM hx (100 - s.toNat) FU s.toNat (by unfold FU; omega) (by omega)
  rw [show ((s.toNat : Nat) : Int) = s by omega] at h1
  unfold f_X8_nextSeen b_X8_nextSeen_0
  rw [(REF_b e).2, Option.bind_some]
  exact h1
/-- the number of the newest grave of the first n writes that concerns a key; -1 for none -/
def grD (ws : List WR) (k : Int) : Nat → Int
  | 0 => -1
  | n + 1 => if ¬ 0 < (wat ws n).2.2.2 ∧ (wat ws n).2.1 ≤ k ∧ k ≤ (wat ws n).2.2.1 then (wat ws n).1 else grD ws k n
theorem grD_succ (ws : List WR) (k : Int) (n : Nat) : grD ws k (n + 1) = if ¬ 0 < (wat ws n).2.2.2 ∧ (wat ws n).2.1 ≤ k ∧ k ≤ (wat ws n).2.2.1 then (wat ws n).1 else grD ws k n := rfl
theorem grD_is (ws : List WR) (k : Int) : ∀ n, grD ws k n = -1 ∨ ∃ i : Nat, i < n ∧ (wat ws i).2.1 ≤ k ∧ k ≤ (wat ws i).2.2.1 ∧ grD ws k n = (wat ws i).1 := by
  intro n
  induction n with
  | zero => exact Or.inl rfl
  | succ n ih =>
    rw [grD_succ]
    by_cases c : ¬ 0 < (wat ws n).2.2.2 ∧ (wat ws n).2.1 ≤ k ∧ k ≤ (wat ws n).2.2.1
    · rw [if_pos c]
      exact Or.inr ⟨n, by omega, c.2.1, c.2.2, rfl⟩
    · rw [if_neg c]
      rcases ih with h | ⟨i, h1, h2⟩
      · exact Or.inl h
      · exact Or.inr ⟨i, by omega, h2⟩
theorem newestGrave_loop {h : HP} {m : Nat} {S : SG} (e : REF h m S) (hw : WSOK S.1) (ho : ORD S.1) {k : Int} (hk : -1000000 < k ∧ k < 1000000) : ∀ (r n : Nat) (j : Nat), r < n → j + r = S.1.length → b_X8_newestGrave_4 h m (zI k) n (zI (grD S.1 k j)) (zI j) = some (zI (grD S.1 k S.1.length)) := by
  have hb := REF_b e
  intro r
  induction r with
  | zero =>
    intro n j hn hj
    obtain ⟨n, rfl⟩ : ∃ k, n = k + 1 := ⟨n - 1, by omega⟩
    unfold b_X8_newestGrave_4 c_X8_newestGrave_4
    rw [X8_all_is e, Option.bind_some, if_pos ((zI_le (by omega)).mpr (by omega)), show S.1.length = j by omega]
  | succ r ih =>
    intro n j hn hj
    obtain ⟨n, rfl⟩ : ∃ k, n = k + 1 := ⟨n - 1, by omega⟩
    have hi := ih n (j + 1) (by omega) (by omega)
    rw [cast1, grD_succ] at hi
    have hwj := WOK_at hw (j := j) (by omega)
    unfold WOK at hwj
    unfold b_X8_newestGrave_4 c_X8_newestGrave_4
    simp only [zl0, zl1, zI_add]
    rw [X8_all_is e, Option.bind_some, if_neg (fun d => absurd ((zI_le (by omega)).mp d) (by omega)), X8_isEntry_is e hw (by omega), Option.bind_some]
    by_cases c : 0 < (wat S.1 j).2.2.2
    · rw [tB_1 c, if_neg (by decide)]
      rw [if_neg (by omega)] at hi
      exact hi
    · rw [tB_0 c, if_pos (by decide), X8_concerns_is e hw (by omega) (by omega), Option.bind_some]
      by_cases c2 : (wat S.1 j).2.1 ≤ k ∧ k ≤ (wat S.1 j).2.2.1
      · rw [if_pos ⟨c, c2⟩] at hi
        have hlt : grD S.1 k j < (wat S.1 j).1 ∧ -1 ≤ grD S.1 k j := by
          rcases grD_is S.1 k j with h5 | ⟨i, h5, h6, h7, h8⟩
          · omega
          · have h9 := ho i j h5 (by omega)
            have h10 := WOK_at hw (j := i) (by omega)
            unfold WOK at h10
            omega
        rw [tB_1 c2, if_neg (by decide), rd0 e (by omega), if_neg (fun d => absurd ((zI_le (by omega)).mp d) (by omega)), rd0 e (by omega)]
        exact hi
      · rw [tB_0 c2, if_pos (by decide)]
        rw [if_neg (by omega)] at hi
        exact hi
theorem X8_newestGrave_is {h : HP} {m : Nat} {S : SG} (e : REF h m S) (hw : WSOK S.1) (ho : ORD S.1) {k : Int} (hk : -1000000 < k ∧ k < 1000000) : f_X8_newestGrave h m (zI k) = some (zI (grD S.1 k S.1.length)) := by
  have h1 := newestGrave_loop e hw ho hk S.1.length FU 0 (by have := REF_b e; unfold FU; omega) (by omega)
  unfold f_X8_newestGrave b_X8_newestGrave_0
  rw [(REF_b e).2, Option.bind_some, zl0, zl1, zI_neg]
  exact h1
