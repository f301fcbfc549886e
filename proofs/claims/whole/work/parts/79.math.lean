/-! write, looks, hidden -/
def fld (w : WR) (k : Int) : Int := if k = 0 then w.1 else if k = 1 then w.2.1 else if k = 2 then w.2.2.1 else w.2.2.2
def xWrite (A : AB) (i j w : Int) : Int × Int × AB := if ¬ (-1 ≤ i ∧ i < A.1.2.1.length) then (1, 0, A) else if j < 0 ∨ ¬ (0 ≤ w ∧ w ≤ 3) then (2, 0, A) else (0, (if j < eOf A.1 i - sOf A.1 i then fld (wat A.1.1 (sOf A.1 i + j)) w else -1), A)
theorem C_write {h : HP} {x : Nat} {A : AB} (e : CLS h x A) {M : Int} (H : GOK A.1 M) {i j w : Int} (hi : -2147483648 ≤ i ∧ i < 2147483648) (hj : -2147483648 ≤ j ∧ j < 2147483648) (hw : -2147483648 ≤ w ∧ w < 2147483648) : f_X7_write h x (zI i) (zI j) (zI w) = some (EXC [IOB, IAE] (xWrite A i j w).1 (xWrite A i j w).2.1) := by
  have g := CLS_g e
  have s := CLS_S e
  have hS := H.2
  unfold SML at hS
  have hE := H.1.2.2.2.2.2.2
  unfold f_X7_write b_X7_write_0 b_X7_write_34 xWrite
  rw [g.1, Option.bind_some, g.2.2.1, Option.bind_some, X3_isPlace_is s hi, Option.bind_some]
  by_cases c1 : -1 ≤ i ∧ i < A.1.2.1.length
  · have hp := plc hE (i := i) c1
    have h1 := X3_startOf_is s (i := i) (by omega)
    have h3 := X3_sizeOf_is s (i := i) (by omega)
    rw [tB_1 c1, if_neg (by decide), if_neg (show ¬ ¬ (-1 ≤ i ∧ i < A.1.2.1.length) by omega)]
    simp only [show (2 : Int32) = zI 2 by decide, show (3 : Int32) = zI 3 by decide, zl0, zl1, zI_neg]
    by_cases c2 : j < 0
    · rw [if_pos ((zI_lt (by omega)).mpr c2), if_pos (Or.inl c2)]
      rfl
    · rw [if_neg (fun d => c2 ((zI_lt (by omega)).mp d))]
      by_cases c3 : w < 0
      · rw [if_pos ((zI_lt (by omega)).mpr c3), if_pos (show j < 0 ∨ ¬ (0 ≤ w ∧ w ≤ 3) by omega)]
        rfl
      · rw [if_neg (fun d => c3 ((zI_lt (by omega)).mp d))]
        by_cases c4 : w ≤ 3
        · rw [if_pos ((zI_le (by omega)).mpr c4), if_neg (show ¬ (j < 0 ∨ ¬ (0 ≤ w ∧ w ≤ 3)) by omega), Option.bind_some, h3, Option.bind_some]
          by_cases c5 : j < eOf A.1 i - sOf A.1 i
          · rw [if_pos ((zI_lt (by omega)).mpr c5), if_pos c5, Option.bind_some, h1, Option.bind_some]
            unfold fld
            by_cases w0 : w = 0
            · rw [if_pos ((zI_inj (by omega)).mpr w0), if_pos w0, Option.bind_some, (STO_w s).1, Option.bind_some, zI_add, X6_numberAt_is (STO_w s).2.1 (by omega)]
              rfl
            · rw [if_neg (fun d => w0 ((zI_inj (by omega)).mp d)), if_neg w0]
              by_cases w1 : w = 1
              · rw [if_pos ((zI_inj (by omega)).mpr w1), if_pos w1, Option.bind_some, (STO_w s).1, Option.bind_some, zI_add, X6_firstAt_is (STO_w s).2.1 (by omega)]
                rfl
              · rw [if_neg (fun d => w1 ((zI_inj (by omega)).mp d)), if_neg w1]
                by_cases w2 : w = 2
                · rw [if_pos ((zI_inj (by omega)).mpr w2), if_pos w2, Option.bind_some, (STO_w s).1, Option.bind_some, zI_add, X6_lastAt_is (STO_w s).2.1 (by omega)]
                  rfl
                · rw [if_neg (fun d => w2 ((zI_inj (by omega)).mp d)), if_neg w2, Option.bind_some, (STO_w s).1, Option.bind_some, zI_add, X6_valueAt_is (STO_w s).2.1 (by omega)]
                  rfl
          · rw [if_neg (fun d => c5 ((zI_lt (by omega)).mp d)), if_neg c5]
            rfl
        · rw [if_neg (fun d => c4 ((zI_le (by omega)).mp d)), if_pos (show j < 0 ∨ ¬ (0 ≤ w ∧ w ≤ 3) by omega)]
          rfl
  · rw [tB_0 c1, if_pos rfl, if_pos c1]
    rfl
theorem R_write {h : HP} {m : Nat} {v : Nat → Int32} {A : AB} (e : RFV h m v A) {M : Int} (H : GOK A.1 M) {i j w : Int} (hi : -2147483648 ≤ i ∧ i < 2147483648) (hj : -2147483648 ≤ j ∧ j < 2147483648) (hw : -2147483648 ≤ w ∧ w < 2147483648) : WP (f_X8_write h m (zI i) (zI j) (zI w)) (RFR m (xWrite A i j w).2.2 (xWrite A i j w).1 (xWrite A i j w).2.1 h) := by
  have hS := H.2
  unfold SML at hS
  have hE := H.1.2.2.2.2.2.2
  have f17 : -1 ≤ i ∧ i < A.1.2.1.length → WP (b_X8_write_17 m (zI i) (zI j) (zI w) h) (RFR m (xWrite A i j w).2.2 (xWrite A i j w).1 (xWrite A i j w).2.1 h) := by
    intro hp
    have hpl := plc hE (i := i) hp
    unfold b_X8_write_17 xWrite
    rw [if_neg (show ¬ ¬ (-1 ≤ i ∧ i < A.1.2.1.length) by omega), zl0]
    by_cases c2 : j < 0
    · refine wt ((zI_lt (by omega)).mpr c2) ?_
      rw [if_pos (Or.inl c2)]
      unfold b_X8_write_35
      exact hold_fail e (c := 2) (by omega) rfl
    · refine wf (fun d => c2 ((zI_lt (by omega)).mp d)) ?_
      rw [show f_X8_in h (zI w) (zI 0) 3 = f_X8_in h (zI w) (zI 0) (zI 3) from rfl]
      refine wb (X8_in_is h hw (by omega) (by omega)) ?_
      by_cases c3 : 0 ≤ w ∧ w ≤ 3
      · rw [tB_1 c3, if_neg (show ¬ (j < 0 ∨ ¬ (0 ≤ w ∧ w ≤ 3)) by omega)]
        refine wf (by decide) ?_
        unfold b_X8_write_35
        refine wpb (X8_holds_is e (c := 0) (by omega)) ?_
        rintro ⟨z, h1⟩ ⟨q1, q2, q3⟩
        dsimp only at q1 q2 q3 ⊢
        subst q1
        rw [tB_1 rfl]
        refine wf (by decide) ?_
        refine wb (X8_manyIn_is q2.2.1 hp) ?_
        by_cases c5 : j < eOf A.1 i - sOf A.1 i
        · refine wf (fun d => absurd ((zI_le (by omega)).mp d) (by omega)) ?_
          rw [if_pos c5]
          obtain ⟨f, -, k1, ⟨b, u0, u1, u2, u3, u4, u5, u6, u7⟩⟩ := REF_MOB q2.2.1 q2.1
          refine wb (gR_e q2.1 rfl) ?_
          refine wb (X8_begin_is q2.2.1 (r := i) (by omega)) ?_
          rw [zI_add]
          refine wb (X8_of_is _ _ _) ?_
          have hu := u7 (sOf A.1 i + j).toNat (by omega)
          rw [show (((sOf A.1 i + j).toNat : Nat) : Int) = sOf A.1 i + j by omega] at hu
          have hv : f (12 + 4 * (sOf A.1 i + j) + w).toNat = zI (fld (wat A.1.1 (sOf A.1 i + j)) w) := by
            unfold fld
            by_cases w0 : w = 0
            · rw [if_pos w0, show (12 + 4 * (sOf A.1 i + j) + w).toNat = 12 + 4 * (sOf A.1 i + j).toNat by omega]
              exact hu.1
            · rw [if_neg w0]
              by_cases w1 : w = 1
              · rw [if_pos w1, show (12 + 4 * (sOf A.1 i + j) + w).toNat = 13 + 4 * (sOf A.1 i + j).toNat by omega]
                exact hu.2.1
              · rw [if_neg w1]
                by_cases w2 : w = 2
                · rw [if_pos w2, show (12 + 4 * (sOf A.1 i + j) + w).toNat = 14 + 4 * (sOf A.1 i + j).toNat by omega]
                  exact hu.2.2.1
                · rw [if_neg w2, show (12 + 4 * (sOf A.1 i + j) + w).toNat = 15 + 4 * (sOf A.1 i + j).toNat by omega]
                  exact hu.2.2.2
          refine wb (aI_v k1 (by omega) hv) ?_
          exact wr ⟨⟨_, q2, upd_eq rfl⟩, fun _ => rfl, OFF_wide q3 (by omega)⟩
        · refine wt ((zI_le (by omega)).mpr (by omega)) ?_
          rw [if_neg c5]
          exact wr ⟨⟨_, q2, upd_eq rfl⟩, fun _ => rfl, OFF_wide q3 (by omega)⟩
      · rw [tB_0 c3, if_pos (Or.inr c3)]
        refine wt rfl ?_
        unfold b_X8_write_35
        exact hold_fail e (c := 2) (by omega) rfl
  unfold f_X8_write b_X8_write_0
  refine wb (kO_e e.1) ?_
  rw [zm1]
  by_cases c0 : i = -1
  · refine wt ((zI_inj (by omega)).mpr c0) ?_
    exact f17 (by omega)
  · refine wf (fun d => c0 ((zI_inj (by omega)).mp d)) ?_
    refine wb (X8_isRun_is e.2.1 hi) ?_
    by_cases c1 : 0 ≤ i ∧ i < A.1.2.1.length
    · rw [tB_1 c1]
      refine wf (by decide) ?_
      exact f17 (by omega)
    · rw [tB_0 c1]
      refine wt rfl ?_
      unfold b_X8_write_35 xWrite
      rw [if_pos (show ¬ (-1 ≤ i ∧ i < A.1.2.1.length) by omega)]
      exact hold_fail e (c := 1) (by omega) rfl
/-- in how many places one looks, from place i on -/
def lk (S : SG) (k i acc : Int) : Nat → Int
  | 0 => acc
  | n + 1 => if nfI S.1 k S.2.2.2.1 ≠ -1 ∧ sOf S i ≤ nfI S.1 k S.2.2.2.1 then acc + (if 0 < eOf S i - sOf S i then 1 else 0) else lk S k (i + 1) (acc + (if 0 < eOf S i - sOf S i then 1 else 0)) n
theorem lk_succ (S : SG) (k i acc : Int) (n : Nat) : lk S k i acc (n + 1) = if nfI S.1 k S.2.2.2.1 ≠ -1 ∧ sOf S i ≤ nfI S.1 k S.2.2.2.1 then acc + (if 0 < eOf S i - sOf S i then 1 else 0) else lk S k (i + 1) (acc + (if 0 < eOf S i - sOf S i then 1 else 0)) n := rfl
def xLooks (A : AB) (k : Int) : Int × Int × AB := if ¬ (0 ≤ k ∧ k ≤ 99) then (1, 0, A) else (0, lk A.1 k (-1) 0 (A.1.2.1.length + 1), A)
theorem looks_loop {h : HP} {x : Nat} {A : AB} (e : CLS h x A) {M : Int} (H : GOK A.1 M) (k : Int) : ∀ (d n : Nat) (i acc : Int), d < n → i + d = A.1.2.1.length → -1 ≤ i → b_X7_looks_38 h x n (zI (nfI A.1.1 k A.1.2.2.2.1)) (zI acc) (zI i) = some (.inl (zI (lk A.1 k i acc d))) := by
  have g := CLS_g e
  have s := CLS_S e
  have hS := H.2
  unfold SML at hS
  have hE := H.1.2.2.2.2.2.2
  have hn := nfI_rng A.1.1 k A.1.2.2.2.1
  intro d
  induction d with
  | zero =>
    intro n i acc hn hi hi1
    obtain ⟨n, rfl⟩ : ∃ k, n = k + 1 := ⟨n - 1, by omega⟩
    unfold b_X7_looks_38 c_X7_looks_38
    rw [g.2.2.1, Option.bind_some, X3_runs_is s, Option.bind_some, if_pos ((zI_le (by omega)).mpr (by omega))]
    rfl
  | succ d ih =>
    intro n i acc hn' hi hi1
    obtain ⟨n, rfl⟩ : ∃ k, n = k + 1 := ⟨n - 1, by omega⟩
    have hp := plc hE (i := i) (by omega)
    have hI := fun acc' => ih n (i + 1) acc' (by omega) (by omega) (by omega)
    have f65 : ∀ acc' : Int, b_X7_looks_65 h x (b_X7_looks_38 h x n) (zI (nfI A.1.1 k A.1.2.2.2.1)) (zI acc') (zI i) = some (.inl (zI (if nfI A.1.1 k A.1.2.2.2.1 ≠ -1 ∧ sOf A.1 i ≤ nfI A.1.1 k A.1.2.2.2.1 then acc' else lk A.1 k (i + 1) acc' d))) := by
      intro acc'
      unfold b_X7_looks_65
      rw [show zI i + 1 = zI (i + 1) by rw [zl1, zI_add], hI acc', zm1]
      by_cases c1 : nfI A.1.1 k A.1.2.2.2.1 = -1
      · rw [if_pos ((zI_inj (by omega)).mpr c1), if_neg (fun d => d.1 c1)]
      · rw [if_neg (fun d => c1 ((zI_inj (by omega)).mp d)), g.2.2.1, Option.bind_some, X3_startOf_is s (i := i) (by omega), Option.bind_some]
        by_cases c2 : nfI A.1.1 k A.1.2.2.2.1 < sOf A.1 i
        · rw [if_pos ((zI_lt (by omega)).mpr c2), if_neg (fun d => absurd d.2 (by omega))]
        · rw [if_neg (fun d => c2 ((zI_lt (by omega)).mp d)), if_pos ⟨c1, by omega⟩]
    unfold b_X7_looks_38 c_X7_looks_38
    rw [g.2.2.1, Option.bind_some, X3_runs_is s, Option.bind_some, if_neg (fun d => absurd ((zI_le (by omega)).mp d) (by omega)), Option.bind_some, X3_sizeOf_is s (i := i) (by omega), Option.bind_some, zl0, zl1, zI_add, f65, f65, lk_succ]
    by_cases c : 0 < eOf A.1 i - sOf A.1 i
    · rw [if_neg (fun d => absurd ((zI_le (by omega)).mp d) (by omega)), if_pos c]
    · rw [if_pos ((zI_le (by omega)).mpr (by omega)), if_neg c, Int.add_zero]
theorem C_looks {h : HP} {x : Nat} {A : AB} (e : CLS h x A) {M : Int} (H : GOK A.1 M) {k : Int} (hk : -2147483648 ≤ k ∧ k < 2147483648) : f_X7_looks h x (zI k) = some (EXC [IOB] (xLooks A k).1 (xLooks A k).2.1) := by
  have g := CLS_g e
  have s := CLS_S e
  have hS := H.2
  unfold SML at hS
  have hM := H.1.2.2.2.2.2.1
  unfold f_X7_looks b_X7_looks_0 xLooks
  rw [g.1, Option.bind_some, X7_isKey_is h hk, Option.bind_some]
  by_cases c1 : 0 ≤ k ∧ k ≤ 99
  · rw [tB_1 c1, if_neg (by decide), if_neg (show ¬ ¬ (0 ≤ k ∧ k ≤ 99) by omega), g.2.2.1, Option.bind_some, Option.bind_some, X3_latest_is s, Option.bind_some, X3_newestFor_is s H.1.1 (by omega) (by omega), Option.bind_some, zm1, zl0, looks_loop e H k (A.1.2.1.length + 1) FU (-1) 0 (by unfold FU; omega) (by omega) (by omega)]
    rfl
  · rw [tB_0 c1, if_pos rfl, if_pos c1]
    rfl
theorem nfD_max {ws : List WR} {k n : Int} (hN : NUM ws n) : ∀ (j i : Nat), i < j → j ≤ ws.length → (wat ws i).2.1 ≤ k → k ≤ (wat ws i).2.2.1 → (i : Int) ≤ nfD ws k n j := by
  intro j
  induction j with
  | zero =>
    intro i hi
    omega
  | succ j ih =>
    intro i hi hj h1 h2
    rw [nfD_succ]
    have hn := hN _ (wat_mem (ws := ws) (j := (j : Int)) (by omega))
    by_cases c : (wat ws j).1 ≤ n ∧ (wat ws j).2.1 ≤ k ∧ k ≤ (wat ws j).2.2.1
    · rw [if_pos c]
      omega
    · rw [if_neg c]
      have : i ≠ j := fun d => by
        subst d
        omega
      exact ih i (by omega) (by omega) h1 h2
theorem lookedAt_loop {h : HP} {m : Nat} {S : SG} (e : REF h m S) {M : Int} (H : GOK S M) {k : Int} (hk : 0 ≤ k ∧ k ≤ 99) : ∀ (d n : Nat) (i acc : Int), d < n → i + d = S.2.1.length → -1 ≤ i → (0 < d → nfI S.1 k S.2.2.2.1 < eOf S i) → b_X8_lookedAt_4 h m (zI k) n (zI acc) (zI i) = some (zI (lk S k i acc d)) := by
  have hS := H.2
  unfold SML at hS
  have hE := H.1.2.2.2.2.2.2
  have hn := nfI_rng S.1 k S.2.2.2.1
  have e2 := e
  obtain ⟨v, f, k0, k1, ⟨b, u0, u1, u2, u3, u4, u5, u6, u7⟩⟩ := e2
  intro d
  induction d with
  | zero =>
    intro n i acc hn' hi hi1 hnf
    obtain ⟨n, rfl⟩ : ∃ k, n = k + 1 := ⟨n - 1, by omega⟩
    unfold b_X8_lookedAt_4 c_X8_lookedAt_4
    rw [gR_e k0 rfl, Option.bind_some, zl0, aI_v k1 (z := 0) (by omega) u0, Option.bind_some, if_pos ((zI_le (by omega)).mpr (by omega))]
    rfl
  | succ d ih =>
    intro n i acc hn' hi hi1 hnf
    obtain ⟨n, rfl⟩ : ∃ k, n = k + 1 := ⟨n - 1, by omega⟩
    have hp := plc hE (i := i) (by omega)
    have hnf := hnf (by omega)
    have hin := X8_isIn_is e H.1.1 (k := k) (x := i) (by omega) (by omega) (p := (sOf S i).toNat) (r := (eOf S i - sOf S i).toNat) (by omega) (by omega) (by omega)
    have hiff : (∃ q : Nat, q < (eOf S i - sOf S i).toNat ∧ (wat S.1 ((sOf S i).toNat + q : Nat)).2.1 ≤ k ∧ k ≤ (wat S.1 ((sOf S i).toNat + q : Nat)).2.2.1) ↔ (nfI S.1 k S.2.2.2.1 ≠ -1 ∧ sOf S i ≤ nfI S.1 k S.2.2.2.1) := by
      constructor
      · rintro ⟨q, h1, h2, h3⟩
        have := nfD_max H.1.2.2.2.1 S.1.length ((sOf S i).toNat + q) (by omega) (Nat.le_refl _) h2 h3
        unfold nfI
        omega
      · rintro ⟨h1, h2⟩
        have h3 := nfD_some (ws := S.1) (k := k) (m := S.2.2.2.1) (n := S.1.length) h1
        refine ⟨(nfI S.1 k S.2.2.2.1 - sOf S i).toNat, by omega, ?_⟩
        rw [show (((sOf S i).toNat + (nfI S.1 k S.2.2.2.1 - sOf S i).toNat : Nat) : Int) = nfI S.1 k S.2.2.2.1 by omega]
        exact h3.2
    have f28 : ∀ (a b : Int), b_X8_lookedAt_28 h m (zI k) (b_X8_lookedAt_4 h m (zI k) n) (zI i) (zI a) (zI b) = some (zI (if nfI S.1 k S.2.2.2.1 ≠ -1 ∧ sOf S i ≤ nfI S.1 k S.2.2.2.1 then a + b else lk S k (i + 1) (a + b) d)) := by
      intro a b
      unfold b_X8_lookedAt_28
      rw [hin, Option.bind_some, zI_add]
      by_cases c : nfI S.1 k S.2.2.2.1 ≠ -1 ∧ sOf S i ≤ nfI S.1 k S.2.2.2.1
      · rw [tB_1 (hiff.mpr c), if_neg (by decide), if_pos c]
      · rw [tB_0 (fun d => c (hiff.mp d)), if_pos rfl, if_neg c, zl1, zI_add]
        refine ih n (i + 1) (a + b) (by omega) (by omega) (by omega) (fun hd => ?_)
        have := plc2 S (i := i) (by omega)
        omega
    unfold b_X8_lookedAt_4 c_X8_lookedAt_4
    rw [gR_e k0 rfl, Option.bind_some, zl0, aI_v k1 (z := 0) (by omega) u0, Option.bind_some, if_neg (fun d => absurd ((zI_le (by omega)).mp d) (by omega)), X8_manyIn_is e (by omega), Option.bind_some, zl1, f28, f28, lk_succ]
    by_cases c : 0 < eOf S i - sOf S i
    · rw [if_neg (fun d => absurd ((zI_le (by omega)).mp d) (by omega)), if_pos c]
    · rw [if_pos ((zI_le (by omega)).mpr (by omega)), if_neg c]
theorem R_looks {h : HP} {m : Nat} {v : Nat → Int32} {A : AB} (e : RFV h m v A) {M : Int} (H : GOK A.1 M) {k : Int} (hk : -2147483648 ≤ k ∧ k < 2147483648) : WP (f_X8_looks h m (zI k)) (RFR m (xLooks A k).2.2 (xLooks A k).1 (xLooks A k).2.1 h) := by
  have hS := H.2
  unfold SML at hS
  have hn := nfI_rng A.1.1 k A.1.2.2.2.1
  unfold f_X8_looks b_X8_looks_0 b_X8_looks_13 xLooks
  refine wb (kO_e e.1) ?_
  refine wb (X8_isKey_is h hk) ?_
  by_cases c1 : 0 ≤ k ∧ k ≤ 99
  · rw [tB_1 c1, if_neg (show ¬ ¬ (0 ≤ k ∧ k ≤ 99) by omega)]
    refine wf (by decide) ?_
    refine hold_read e (c := 0) (by omega) (g := fun h' => f_X8_lookedAt h' m (zI k)) (fun _ h' w' e' => ?_) rfl
    show f_X8_lookedAt h' m (zI k) = _
    unfold f_X8_lookedAt b_X8_lookedAt_0
    rw [kO_e e'.1, Option.bind_some, zm1, zl0]
    exact lookedAt_loop e'.2.1 H c1 (A.1.2.1.length + 1) FU (-1) 0 (by unfold FU; omega) (by omega) (by omega) (fun _ => by
      rw [eOf_m1]
      exact hn.2)
  · rw [tB_0 c1, if_pos c1]
    refine wt rfl ?_
    exact hold_fail e (c := 1) (by omega) rfl
/-- an entry that no view sees -/
def hidE (S : SG) (j : Nat) : Prop := 0 < (wat S.1 j).2.2.2 ∧ ¬ ∃ q : Nat, q < S.2.2.1.length + 1 ∧ nfI S.1 (wat S.1 j).2.1 (lim S ((q : Int) - 1)) = j
def hidN (S : SG) : Int := cnt (fun j => 0 < (wat S.1 j).2.2.2 ∧ ¬ ∃ q : Nat, q < S.2.2.1.length + 1 ∧ nfI S.1 (wat S.1 j).2.1 (lim S ((q : Int) - 1)) = j) 0 S.1.length
theorem hidden_loop {h : HP} {x : Nat} {A : AB} (e : CLS h x A) {M : Int} (H : GOK A.1 M) : ∀ (r n : Nat) (acc : Int) (j : Nat), r < n → j + r = A.1.1.length → b_X7_hidden_4 h x n (zI acc) (zI j) = some (zI (acc + cnt (fun j => 0 < (wat A.1.1 j).2.2.2 ∧ ¬ ∃ q : Nat, q < A.1.2.2.1.length + 1 ∧ nfI A.1.1 (wat A.1.1 j).2.1 (lim A.1 ((q : Int) - 1)) = j) j r)) := by
  have g := CLS_g e
  have s := CLS_S e
  have hS := H.2
  unfold SML at hS
  have hM := H.1.2.2.2.2.2.1
  intro r
  induction r with
  | zero =>
    intro n acc j hn hj
    obtain ⟨n, rfl⟩ : ∃ k, n = k + 1 := ⟨n - 1, by omega⟩
    unfold b_X7_hidden_4 c_X7_hidden_4
    rw [g.2.2.1, Option.bind_some, X3_size_is s, Option.bind_some, if_pos ((zI_le (by omega)).mpr (by omega))]
    unfold cnt
    rw [Int.add_zero]
  | succ r ih =>
    intro n acc j hn hj
    obtain ⟨n, rfl⟩ : ∃ k, n = k + 1 := ⟨n - 1, by omega⟩
    have h1 := ih n (acc + 1) (j + 1) (by omega) (by omega)
    have h0 := ih n acc (j + 1) (by omega) (by omega)
    rw [cast1] at h1 h0
    unfold b_X7_hidden_4 c_X7_hidden_4
    rw [g.2.2.1, Option.bind_some, X3_size_is s, Option.bind_some, if_neg (fun d => absurd ((zI_le (by omega)).mp d) (by omega)), Option.bind_some, (STO_w s).1, Option.bind_some, X6_isEntry_is (STO_w s).2.1 (by omega) (WSOK_v H.1.1), Option.bind_some, zl1, zI_add, zI_add, h1, h0, cnt_succ]
    by_cases c1 : 0 < (wat A.1.1 j).2.2.2
    · rw [tB_1 c1, if_neg (by decide), Option.bind_some, X3_isSeen_is s H.1.1 (SOK_Y H.1) ⟨hM.1, hM.2.1⟩ hM.2.2 (j := j) (by omega), Option.bind_some]
      by_cases c2 : ∃ q : Nat, q < A.1.2.2.1.length + 1 ∧ nfI A.1.1 (wat A.1.1 j).2.1 (lim A.1 ((q : Int) - 1)) = j
      · rw [tB_1 c2, if_neg (by decide), if_neg (fun d => d.2 c2), Int.zero_add]
      · rw [tB_0 c2, if_pos rfl, if_pos ⟨c1, c2⟩, Int.add_assoc]
    · rw [tB_0 c1, if_pos rfl, if_neg (fun d => c1 d.1), Int.zero_add]
theorem C_hidden {h : HP} {x : Nat} {A : AB} (e : CLS h x A) {M : Int} (H : GOK A.1 M) : f_X7_hidden h x = some (zI (hidN A.1)) := by
  have g := CLS_g e
  have hS := H.2
  unfold SML at hS
  unfold f_X7_hidden b_X7_hidden_0 hidN
  rw [g.1, Option.bind_some, zl0]
  have h1 := hidden_loop e H A.1.1.length FU 0 0 (by unfold FU; omega) (by omega)
  rw [Int.zero_add] at h1
  exact h1
theorem hidden_26 {h : HP} {m : Nat} {S : SG} (e : REF h m S) {M : Int} (H : GOK S M) {j : Nat} (hj : j < S.1.length) {k9 : HP → Int32 → Int32 → Option (Int32 × HP)} {acc : Int} : ∀ (r n : Nat) (t : Bool) (i : Nat), r < n → i + r = S.2.2.1.length + 1 → b_X8_hidden_26 m k9 n h (zI acc) (zI j) (tB (t = true)) (zI ((i : Int) - 1)) = k9 h (zI (acc + if (t && !exB (fun q => decide (nfI S.1 (wat S.1 j).2.1 (lim S ((q : Int) - 1)) = j)) i r) = true then 1 else 0)) (zI ((j : Int) + 1)) := by
  have hS := H.2
  unfold SML at hS
  have hM := H.1.2.2.2.2.2.1
  have hwj := WOK_at H.1.1 (j := (j : Int)) (by omega)
  unfold WOK at hwj
  have e2 := e
  obtain ⟨v, f, k0, k1, ⟨b, u0, u1, u2, u3, u4, u5, u6, u7⟩⟩ := e2
  intro r
  induction r with
  | zero =>
    intro n t i hn hi
    obtain ⟨n, rfl⟩ : ∃ k, n = k + 1 := ⟨n - 1, by omega⟩
    unfold b_X8_hidden_26 c_X8_hidden_26
    rw [gR_e k0 rfl, Option.bind_some, show (7 : Int32) = zI 7 by decide, aI_v k1 (z := 7) (by omega) u3, Option.bind_some, if_pos ((zI_le (by omega)).mpr (by omega)), show exB (fun q => decide (nfI S.1 (wat S.1 j).2.1 (lim S ((q : Int) - 1)) = j)) i 0 = false from rfl, Bool.not_false, Bool.and_true]
    simp only [zl0, zl1, zI_add]
    cases t with
    | true => rw [tB_1 (p := true = true) rfl, if_neg (by decide), if_pos rfl]
    | false => rw [tB_0 (p := false = true) (by decide), if_pos (by rfl), if_neg (by decide)]
  | succ r ih =>
    intro n t i hn hi
    obtain ⟨n, rfl⟩ : ∃ k, n = k + 1 := ⟨n - 1, by omega⟩
    have h1 := ih n true (i + 1) (by omega) (by omega)
    have h0 := ih n false (i + 1) (by omega) (by omega)
    rw [show ((i + 1 : Nat) : Int) - 1 = (i : Int) - 1 + 1 by omega, tB_1 (p := true = true) rfl] at h1
    rw [show ((i + 1 : Nat) : Int) - 1 = (i : Int) - 1 + 1 by omega, tB_0 (p := false = true) (by decide)] at h0
    have hlr := lim_rng (SOK_Y H.1) ⟨hM.1, hM.2.1⟩ ((i : Int) - 1)
    have hn2 := nfI_rng S.1 (wat S.1 j).2.1 (lim S ((i : Int) - 1))
    unfold b_X8_hidden_26 c_X8_hidden_26
    rw [gR_e k0 rfl, Option.bind_some, show (7 : Int32) = zI 7 by decide, aI_v k1 (z := 7) (by omega) u3, Option.bind_some, if_neg (fun d => absurd ((zI_le (by omega)).mp d) (by omega)), show zI ((i : Int) - 1) + 1 = zI ((i : Int) - 1 + 1) by rw [zl1, zI_add], h1, h0, exB_succ]
    cases t with
    | false =>
      rw [tB_0 (p := false = true) (by decide), if_pos rfl, Bool.false_and, Bool.false_and]
    | true =>
      rw [tB_1 (p := true = true) rfl, if_neg (by decide), ← gR_e k0 (ci := 8) (k := 1) rfl, rq1 e (by omega), X8_upTo_is e (x := (i : Int) - 1) (by omega), Option.bind_some, X8_newest_is e H.1.1 H.1.2.1 (by omega) (by omega), Option.bind_some, Bool.true_and, Bool.true_and, Bool.false_and]
      by_cases c : nfI S.1 (wat S.1 j).2.1 (lim S ((i : Int) - 1)) = j
      · rw [if_pos ((zI_inj (by omega)).mpr c), decide_eq_true c, Bool.true_or]
        rfl
      · rw [if_neg (fun d => c ((zI_inj (by omega)).mp d)), decide_eq_false c, Bool.false_or]
theorem Rhidden_loop {h : HP} {m : Nat} {S : SG} (e : REF h m S) {M : Int} (H : GOK S M) : ∀ (r n : Nat) (acc : Int) (j : Nat), r < n → j + r = S.1.length → b_X8_hidden_9 m n h (zI acc) (zI j) = some (zI (acc + cnt (fun j => 0 < (wat S.1 j).2.2.2 ∧ ¬ ∃ q : Nat, q < S.2.2.1.length + 1 ∧ nfI S.1 (wat S.1 j).2.1 (lim S ((q : Int) - 1)) = j) j r), h) := by
  have hS := H.2
  unfold SML at hS
  intro r
  induction r with
  | zero =>
    intro n acc j hn hj
    obtain ⟨n, rfl⟩ : ∃ k, n = k + 1 := ⟨n - 1, by omega⟩
    unfold b_X8_hidden_9 c_X8_hidden_9
    rw [X8_all_is e, Option.bind_some, if_pos ((zI_le (by omega)).mpr (by omega))]
    unfold cnt
    rw [Int.add_zero]
  | succ r ih =>
    intro n acc j hn hj
    obtain ⟨n, rfl⟩ : ∃ k, n = k + 1 := ⟨n - 1, by omega⟩
    have h26 := hidden_26 e H (j := j) (by omega) (k9 := b_X8_hidden_9 m n) (acc := acc) (S.2.2.1.length + 1) FU (enB (wat S.1 j)) 0 (by unfold FU; omega) (by omega)
    rw [show ((0 : Nat) : Int) - 1 = -1 by omega] at h26
    have hEn : tB (0 < (wat S.1 j).2.2.2) = tB (enB (wat S.1 j) = true) := tB_c enB_iff.symm
    unfold b_X8_hidden_9 c_X8_hidden_9
    rw [X8_all_is e, Option.bind_some, if_neg (fun d => absurd ((zI_le (by omega)).mp d) (by omega)), X8_isEntry_is e H.1.1 (by omega), Option.bind_some, hEn, zm1, h26, ← cast1, ih n _ (j + 1) (by omega) (by omega), cnt_succ, Int.add_assoc]
    congr 4
    have hex : exB (fun q => decide (nfI S.1 (wat S.1 j).2.1 (lim S ((q : Int) - 1)) = j)) 0 (S.2.2.1.length + 1) = true ↔ ∃ q : Nat, q < S.2.2.1.length + 1 ∧ nfI S.1 (wat S.1 j).2.1 (lim S ((q : Int) - 1)) = j := by
      rw [exB_iff]
      constructor
      · rintro ⟨q, h1, h2, h3⟩
        exact ⟨q, by omega, of_decide_eq_true h3⟩
      · rintro ⟨q, h1, h2⟩
        exact ⟨q, by omega, by omega, decide_eq_true h2⟩
    by_cases c : 0 < (wat S.1 j).2.2.2 ∧ ¬ ∃ q : Nat, q < S.2.2.1.length + 1 ∧ nfI S.1 (wat S.1 j).2.1 (lim S ((q : Int) - 1)) = j
    · rw [if_pos c, if_pos]
      rw [enB_iff.mpr c.1, Bool.eq_false_iff.mpr (fun d => c.2 (hex.mp d))]
      rfl
    · rw [if_neg c, if_neg]
      intro hh
      rw [Bool.and_eq_true, enB_iff, Bool.not_eq_true'] at hh
      exact c ⟨hh.1, fun d => by
        rw [hex.mpr d] at hh
        exact absurd hh.2 (by decide)⟩
theorem R_hidden {h : HP} {m : Nat} {v : Nat → Int32} {A : AB} (e : RFV h m v A) {M : Int} (H : GOK A.1 M) : WP (f_X8_hidden h m) (fun r => r.1 = zI (hidN A.1) ∧ RFS r.2 m A ∧ OFF m 9 h r.2) := by
  have hS := H.2
  unfold SML at hS
  unfold f_X8_hidden b_X8_hidden_0 hidN
  refine wb (kO_e e.1) ?_
  refine wpb (pI_M e.1 (by omega)) ?_
  rintro h1 ⟨q1, q2⟩
  have e1 := RFV_0 e q2 q1 (upd_ne (by omega)) (upd_ne (by omega))
  have h5 := Rhidden_loop e1.2.1 H A.1.1.length FU 0 0 (by unfold FU; omega) (by omega)
  rw [Int.zero_add] at h5
  rw [zl0]
  rw [zl0] at e1
  refine weq h5 ⟨rfl, ⟨_, e1⟩, OFF_wide q2 (by omega)⟩
