/-! keys and entries counted against each other; small facts about what the class tells -/
theorem cnt_img {P : Nat → Prop} [DecidablePred P] (Q : Nat → Bool) (g : Nat → Int) {n : Nat} (h : ∀ k : Nat, k < 100 → P k → ∃ j, j < n ∧ Q j = true ∧ g j = (k : Int)) : cnt P 0 100 ≤ cnt (fun j => Q j = true) 0 n := by
  have h1 : ∀ m : Nat, cnt (fun k => exB (fun j => Q j && decide (g j = (k : Int))) 0 m = true) 0 100 ≤ cnt (fun j => Q j = true) 0 m := by
    intro m
    induction m with
    | zero =>
      have := cnt_0 (P := fun k => exB (fun j => Q j && decide (g j = (k : Int))) 0 0 = true) (p := 0) (n := 100) (fun i _ _ h => absurd (show false = true from h) (by decide))
      have h2 : cnt (fun j => Q j = true) 0 0 = 0 := rfl
      omega
    | succ m ih =>
      have a1 : cnt (fun k => exB (fun j => Q j && decide (g j = (k : Int))) 0 (m + 1) = true) 0 100 = cnt (fun k => exB (fun j => Q j && decide (g j = (k : Int))) 0 m = true ∨ (Q m && decide (g m = (k : Int))) = true) 0 100 := cnt_c fun i _ _ => by
        rw [exB_last, Bool.or_eq_true, Nat.zero_add]
      have a2 := cnt_or_le (fun k => exB (fun j => Q j && decide (g j = (k : Int))) 0 m = true) (fun k => (Q m && decide (g m = (k : Int))) = true) 0 100
      have a3 := cnt_split (fun j => Q j = true) 0 m 1
      have a4 : cnt (fun j => Q j = true) (0 + m) 1 = if Q m = true then 1 else 0 := by
        rw [cnt_succ, Nat.zero_add]
        show _ + (0 : Int) = _
        rw [Int.add_zero]
      have a5 : cnt (fun k => (Q m && decide (g m = (k : Int))) = true) 0 100 ≤ if Q m = true then 1 else 0 := by
        by_cases c : Q m = true
        · rw [if_pos c]
          have b1 := (cnt_eq_le (g m) 0 100).1
          have b2 : cnt (fun k => (Q m && decide (g m = (k : Int))) = true) 0 100 = cnt (fun k => g m = ((k : Nat) : Int)) 0 100 := cnt_c fun i _ _ => by
            rw [c, Bool.true_and, decide_eq_true_eq]
          omega
        · rw [if_neg c]
          have := cnt_0 (P := fun k => (Q m && decide (g m = ((k : Nat) : Int))) = true) (p := 0) (n := 100) (fun i _ _ h => c (by rw [Bool.and_eq_true] at h; exact h.1))
          omega
      omega
  have h2 : cnt P 0 100 ≤ cnt (fun k => exB (fun j => Q j && decide (g j = (k : Int))) 0 n = true) 0 100 := cnt_mono fun k _ hk hP => by
    obtain ⟨j, j1, j2, j3⟩ := h k (by omega) hP
    exact exB_iff.mpr ⟨j, by omega, by omega, by rw [j2, decide_eq_true j3]; rfl⟩
  have := h1 n
  omega
theorem cnt_two (A B : Nat → Prop) [DecidablePred A] [DecidablePred B] (p n : Nat) : cnt A p n = cnt (fun i => A i ∧ B i) p n + cnt (fun i => A i ∧ ¬ B i) p n := by
  induction n generalizing p with
  | zero => rfl
  | succ n ih =>
    have := ih (p + 1)
    rw [cnt_succ, cnt_succ, cnt_succ]
    by_cases a : A p
    · by_cases b : B p
      · rw [if_pos a, if_pos ⟨a, b⟩, if_neg (fun d => d.2 b)]
        omega
      · rw [if_pos a, if_neg (fun d => b d.2), if_pos ⟨a, b⟩]
        omega
    · rw [if_neg a, if_neg (fun d => a d.1), if_neg (fun d => a d.1)]
      omega
theorem nf_seen {S : SG} {M : Int} (H : SOK S M) {k x : Int} (h : vw S k x ≠ 0) : (0 ≤ nfI S.1 k (lim S x) ∧ nfI S.1 k (lim S x) < S.1.length) ∧ 0 < (wat S.1 (nfI S.1 k (lim S x))).2.2.2 ∧ (wat S.1 (nfI S.1 k (lim S x))).2.1 = k := by
  have hr := nfI_rng S.1 k (lim S x)
  have h0 : (wat S.1 (nfI S.1 k (lim S x))).2.2.2 ≠ 0 := h
  by_cases c : nfI S.1 k (lim S x) = -1
  · rw [c] at h0
    exact absurd (by rw [wat_out (by omega)]; rfl) h0
  · have hv := (wat_v H.1 (nfI S.1 k (lim S x))).1
    have hs := nfD_some (ws := S.1) (k := k) (m := lim S x) (n := S.1.length) c
    have he := H.2.2.1 _ (wat_mem (ws := S.1) (j := nfI S.1 k (lim S x)) (by omega)) (by omega)
    refine ⟨by omega, by omega, ?_⟩
    unfold nfI at he ⊢
    omega
theorem seen_hid {S : SG} {M : Int} (H : SOK S M) : (0 ≤ hidN S ∧ hidN S ≤ tld S 5) ∧ tld S 6 ≤ tld S 5 - hidN S ∧ tld S 6 ≤ S.1.length := by
  have t5 : tld S 5 = cnt (fun i => 0 < (wat S.1 i).2.2.2) 0 S.1.length := rfl
  have t6 : tld S 6 = cnt (fun k => vw S k (-1) ≠ 0) 0 100 := rfl
  have h1 := cnt_two (fun i : Nat => 0 < (wat S.1 i).2.2.2) (fun j : Nat => ∃ q : Nat, q < S.2.2.1.length + 1 ∧ nfI S.1 (wat S.1 j).2.1 (lim S ((q : Int) - 1)) = j) 0 S.1.length
  have h2 := cnt_b (fun i : Nat => 0 < (wat S.1 i).2.2.2 ∧ ∃ q : Nat, q < S.2.2.1.length + 1 ∧ nfI S.1 (wat S.1 i).2.1 (lim S ((q : Int) - 1)) = i) 0 S.1.length
  have h3 := cnt_b (fun i : Nat => 0 < (wat S.1 i).2.2.2 ∧ ¬ ∃ q : Nat, q < S.2.2.1.length + 1 ∧ nfI S.1 (wat S.1 i).2.1 (lim S ((q : Int) - 1)) = i) 0 S.1.length
  have hh : hidN S = cnt (fun i : Nat => 0 < (wat S.1 i).2.2.2 ∧ ¬ ∃ q : Nat, q < S.2.2.1.length + 1 ∧ nfI S.1 (wat S.1 i).2.1 (lim S ((q : Int) - 1)) = i) 0 S.1.length := by
    unfold hidN
    exact cnt_c fun _ _ _ => Iff.rfl
  have h4 : cnt (fun k : Nat => vw S k (-1) ≠ 0) 0 100 ≤ cnt (fun j => decide (0 < (wat S.1 (j : Nat)).2.2.2 ∧ ∃ q : Nat, q < S.2.2.1.length + 1 ∧ nfI S.1 (wat S.1 j).2.1 (lim S ((q : Int) - 1)) = j) = true) 0 S.1.length := by
    refine cnt_img (fun j => decide (0 < (wat S.1 (j : Nat)).2.2.2 ∧ ∃ q : Nat, q < S.2.2.1.length + 1 ∧ nfI S.1 (wat S.1 j).2.1 (lim S ((q : Int) - 1)) = j)) (fun j => (wat S.1 j).2.1) fun k hk hv => ?_
    obtain ⟨n1, n2, n3⟩ := nf_seen H hv
    have hn : ((nfI S.1 k (lim S (-1))).toNat : Int) = nfI S.1 k (lim S (-1)) := by omega
    refine ⟨(nfI S.1 k (lim S (-1))).toNat, by omega, decide_eq_true ⟨?_, 0, by omega, ?_⟩, ?_⟩
    · rw [hn]
      exact n2
    · rw [hn, n3]
      rfl
    · show (wat S.1 _).2.1 = k
      rw [hn]
      exact n3
  have h5 : cnt (fun j => decide (0 < (wat S.1 (j : Nat)).2.2.2 ∧ ∃ q : Nat, q < S.2.2.1.length + 1 ∧ nfI S.1 (wat S.1 j).2.1 (lim S ((q : Int) - 1)) = j) = true) 0 S.1.length = cnt (fun i : Nat => 0 < (wat S.1 i).2.2.2 ∧ ∃ q : Nat, q < S.2.2.1.length + 1 ∧ nfI S.1 (wat S.1 i).2.1 (lim S ((q : Int) - 1)) = i) 0 S.1.length := cnt_c fun _ _ _ => decide_eq_true_iff
  omega
theorem few_seen {S : SG} {M : Int} (H : SOK S M) : tld S 6 ≤ fewV S := by
  have h := (seen_hid H).2.2
  have t6 : tld S 6 = cnt (fun k => vw S k (-1) ≠ 0) 0 100 := rfl
  by_cases c : eOf S (-1) - sOf S (-1) = 0 ∧ S.2.1.length < 2
  · rw [fewV_1 c]
    exact h
  · rw [fewV_0 c]
    omega
theorem lk_le (S : SG) (k : Int) : ∀ (n : Nat) (i acc : Int), lk S k i acc n ≤ acc + n := by
  intro n
  induction n with
  | zero =>
    intro i acc
    show acc ≤ acc + 0
    omega
  | succ n ih =>
    intro i acc
    rw [lk_succ]
    have h1 : (0 : Int) ≤ (if 0 < eOf S i - sOf S i then 1 else 0) ∧ (if 0 < eOf S i - sOf S i then 1 else 0) ≤ (1 : Int) := by split <;> omega
    split
    · omega
    · have := ih (i + 1) (acc + (if 0 < eOf S i - sOf S i then 1 else 0))
      omega
theorem bst_ok (S : SG) : ∀ (r : Nat) (j fd mo : Int), (fd = -1 ∨ mgF S fd = 0) → bst S r j fd mo = -1 ∨ mgF S (bst S r j fd mo) = 0 := by
  intro r
  induction r with
  | zero => exact fun j fd mo h => h
  | succ r ih =>
    intro j fd mo h
    show (if mgF S j = 0 ∧ (fd = -1 ∨ mo < mgV S j) then bst S r (j + 1) j (mgV S j) else bst S r (j + 1) fd mo) = -1 ∨ mgF S (if mgF S j = 0 ∧ (fd = -1 ∨ mo < mgV S j) then bst S r (j + 1) j (mgV S j) else bst S r (j + 1) fd mo) = 0
    by_cases c : mgF S j = 0 ∧ (fd = -1 ∨ mo < mgV S j)
    · rw [if_pos c]
      exact ih (j + 1) j (mgV S j) (Or.inr c.1)
    · rw [if_neg c]
      exact ih (j + 1) fd mo h
theorem fst1_is (P : Nat → Prop) [DecidablePred P] : ∀ (n p : Nat), (fst1 P p n = -1 ∧ cnt P p n = 0) ∨ ∃ t : Nat, p ≤ t ∧ t < p + n ∧ fst1 P p n = t ∧ P t ∧ cnt P p (t - p) = 0 := by
  intro n
  induction n with
  | zero => exact fun p => Or.inl ⟨rfl, rfl⟩
  | succ n ih =>
    intro p
    rw [fst1_succ, cnt_succ]
    by_cases c : P p
    · rw [if_pos c]
      refine Or.inr ⟨p, by omega, by omega, rfl, c, ?_⟩
      rw [Nat.sub_self]
      rfl
    · rw [if_neg c, if_neg c]
      rcases ih (p + 1) with ⟨h1, h2⟩ | ⟨t, t1, t2, t3, t4, t5⟩
      · exact Or.inl ⟨h1, by omega⟩
      · refine Or.inr ⟨t, by omega, by omega, t3, t4, ?_⟩
        rw [show t - p = (t - (p + 1)) + 1 by omega, cnt_succ, if_neg c]
        omega
