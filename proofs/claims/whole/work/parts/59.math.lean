theorem dN_loop {c wa : Nat} {rs ws : List WR} (hw : WSOK ws) (Y : List Int) (hd : wa + 5 ≤ c ∨ c + 158 ≤ wa) {cap : Nat} {p q : Nat} (hq : q ≤ ws.length) (hq2 : q ≤ 148) {h0 : HP} : ∀ (r n : Nat) (h : HP) (L : Nat → Nat → Bool) (j : Nat), r < n → j + r = q → p ≤ j → CLNX h c rs L → WRS h wa cap ws → OFF c 158 h0 h → (∀ i, p ≤ i → i < j → ∀ k : Nat, L (3 + i) k = kpB ws Y p q true i k) → (∀ i, j ≤ i → i < q → ∀ k : Nat, L (3 + i) k = k1B ws Y q i k) → (∀ k : Nat, L 2 k = exB (fun i => enB (wat ws i) && k1B ws Y q i k) p (j - p)) → WP (b_X0_dropNeedless_10 c wa (zI q) n h (zI j)) (fun h' => (∃ L', CLNX h' c rs L' ∧ ∀ i, p ≤ i → i < q → ∀ k : Nat, L' (3 + i) k = kpB ws Y p q true i k) ∧ OFF c 158 h0 h') := by
  intro r
  induction r with
  | zero =>
    intro n h L j hn hj hp e s o h1 h2 h3
    obtain ⟨n, rfl⟩ : ∃ k, n = k + 1 := ⟨n - 1, by omega⟩
    have hlen := WRS_len s
    unfold b_X0_dropNeedless_10 c_X0_dropNeedless_10
    refine wt ((zI_le (by omega)).mpr (by omega)) ?_
    exact wr ⟨⟨L, e, fun i h5 h6 k => h1 i h5 (by omega) k⟩, o⟩
  | succ r ih =>
    intro n h L j hn hj hp e s o h1 h2 h3
    obtain ⟨n, rfl⟩ : ∃ k, n = k + 1 := ⟨n - 1, by omega⟩
    have hlen := WRS_len s
    unfold b_X0_dropNeedless_10 c_X0_dropNeedless_10
    refine wf (fun d => absurd ((zI_le (by omega)).mp d) (by omega)) ?_
    refine wb (X6_isEntry_is s (by omega) (WSOK_v hw)) ?_
    have hkp : ∀ k : Nat, kpB ws Y p q true j k = (k1B ws Y q j k && (enB (wat ws j) || L 2 k)) := fun k => by
      unfold kpB
      rw [h3 k]
      simp
    by_cases c1 : 0 < (wat ws j).2.2.2
    · have c2 : enB (wat ws j) = true := enB_iff.mpr c1
      rw [tB_1 c1]
      refine wf (by decide) ?_
      refine wb (CLNX_0 e).2.2.2.2 ?_
      refine wb (CLNX_0 e).2.1 ?_
      refine wb (CLNX_a e (by omega)) ?_
      refine wpb (X2_addAll_is (CLNX_k e (i := 2) (by omega) rfl) (CLNX_k e (i := 3 + j) (by omega) (by omega)) (by omega)) ?_
      rintro h4 ⟨q5, q6⟩
      have e4 := CLNX_set e (i := 2) (by omega) rfl q5 q6
      have h9 := ih n h4 _ (j + 1) (by omega) (by omega) (by omega) e4 (WRS_off s q6 (by omega)) (OFF_trans o (OFF_wide q6 (by omega))) (fun i h5 h6 k => by
        rw [setL_ne _ _ (by omega)]
        by_cases d : i = j
        · subst d
          rw [h2 i (by omega) (by omega) k, hkp k, c2, Bool.true_or, Bool.and_true]
        · exact h1 i h5 (by omega) k) (fun i h5 h6 k => by
        rw [setL_ne _ _ (by omega)]
        exact h2 i (by omega) h6 k) (fun k => by
        rw [setL_eq, show j + 1 - p = (j - p) + 1 by omega, exB_last, show p + (j - p) = j by omega, ← h3 k, c2, Bool.true_and, h2 j (by omega) (by omega) k])
      rw [cast1] at h9
      rw [zl1, zI_add]
      exact h9
    · have c2 : ¬ enB (wat ws j) = true := fun d => c1 (enB_iff.mp d)
      rw [tB_0 c1]
      refine wt rfl ?_
      refine wb (CLNX_0 e).2.1 ?_
      refine wb (CLNX_a e (by omega)) ?_
      refine wb (CLNX_0 e).2.2.2.2 ?_
      refine wpb (X2_keepOnly_is (CLNX_k e (i := 3 + j) (by omega) (by omega)) (CLNX_k e (i := 2) (by omega) rfl) (by omega)) ?_
      rintro h4 ⟨q5, q6⟩
      have e4 := CLNX_set e (i := 3 + j) (by omega) (by omega) q5 q6
      have h9 := ih n h4 _ (j + 1) (by omega) (by omega) (by omega) e4 (WRS_off s q6 (by omega)) (OFF_trans o (OFF_wide q6 (by omega))) (fun i h5 h6 k => by
        by_cases d : i = j
        · subst d
          rw [setL_eq, h2 i (by omega) (by omega) k, hkp k, Bool.eq_false_iff.mpr c2, Bool.false_or]
        · rw [setL_ne _ _ (by omega)]
          exact h1 i h5 (by omega) k) (fun i h5 h6 k => by
        rw [setL_ne _ _ (by omega)]
        exact h2 i (by omega) h6 k) (fun k => by
        rw [setL_ne _ _ (by omega), show j + 1 - p = (j - p) + 1 by omega, exB_last, show p + (j - p) = j by omega, ← h3 k, Bool.eq_false_iff.mpr c2, Bool.false_and, Bool.or_false])
      rw [cast1] at h9
      rw [zl1, zI_add]
      exact h9
theorem X0_dropNeedless_is {h : HP} {c wa cap : Nat} {rs ws : List WR} {L : Nat → Nat → Bool} (e : CLNX h c rs L) (s : WRS h wa cap ws) (hw : WSOK ws) (Y : List Int) (hd : wa + 5 ≤ c ∨ c + 158 ≤ wa) {p q : Nat} (hp : p ≤ q) (hq : q ≤ ws.length) (hq2 : q ≤ 148) (h2 : ∀ i, p ≤ i → i < q → ∀ k : Nat, L (3 + i) k = k1B ws Y q i k) : WP (f_X0_dropNeedless h c wa (zI p) (zI q)) (fun h' => (∃ L', CLNX h' c rs L' ∧ ∀ i, p ≤ i → i < q → ∀ k : Nat, L' (3 + i) k = kpB ws Y p q true i k) ∧ OFF c 158 h h') := by
  unfold f_X0_dropNeedless b_X0_dropNeedless_0
  refine wb (CLNX_kO e) ?_
  refine wb (CLNX_0 e).2.2.2.2 ?_
  refine wpb (X2_empty_is (CLNX_k e (i := 2) (by omega) rfl)) ?_
  rintro h4 ⟨q5, q6⟩
  have e4 := CLNX_set e (i := 2) (by omega) rfl q5 q6
  exact dN_loop hw Y hd hq hq2 (h0 := h) (q - p) FU h4 _ p (by unfold FU; omega) (by omega) (Nat.le_refl _) e4 (WRS_off s q6 (by omega)) (OFF_wide q6 (by omega)) (fun i _ _ => by omega) (fun i h5 h6 k => by
    rw [setL_ne _ _ (by omega)]
    exact h2 i h5 h6 k) (fun k => by
    rw [setL_eq, Nat.sub_self]
    rfl)
theorem aR_loop {c wa cap : Nat} {ws : List WR} {L : Nat → Nat → Bool} (hw : WSOK ws) (hd : wa + 5 ≤ c ∨ c + 158 ≤ wa) {j : Nat} (hj : j < ws.length) (hj2 : j < 148) {K : Int → Bool} (hK : ∀ k : Nat, L (3 + j) k = K k) {h0 : HP} {v0 : Int32} (hv0 : v0 = zI (wat ws j).2.2.1) : ∀ (m n : Nat) (h : HP) (rs : List WR) (st k : Nat), m < n → (k : Int) + m = (wat ws j).2.2.1 + 1 → st ≤ k → CLNX h c rs L → WRS h wa cap ws → OFF c 158 h0 h → ∀ f : Int, (f = if m = 0 then -1 else if K k = true then (if st = k then -1 else (st : Int)) else -1) → rs.length + (rowsF (wat ws j) K f k m).length ≤ 348 → WP (b_X0_addRows_25 c wa (zI j) n h (c + 10 + j) v0 (zI st) (zI k)) (fun h' => CLNX h' c (rs ++ rowsF (wat ws j) K f k m) L ∧ OFF c 158 h0 h') := by
  have hwj := WOK_at hw (j := j) (by omega)
  unfold WOK at hwj
  subst hv0
  intro m
  induction m with
  | zero =>
    intro n h rs st k hn hk hst e s o f hf hb
    obtain ⟨n, rfl⟩ : ∃ k, n = k + 1 := ⟨n - 1, by omega⟩
    rw [if_pos rfl] at hf
    subst hf
    unfold b_X0_addRows_25 c_X0_addRows_25
    refine wt ((zI_lt (by omega)).mpr (by omega)) ?_
    rw [rowsF_0, if_pos rfl, List.append_nil]
    exact wr ⟨e, o⟩
  | succ m ih =>
    intro n h rs st k hn hk hst e s o f hf hb
    obtain ⟨n, rfl⟩ : ∃ k, n = k + 1 := ⟨n - 1, by omega⟩
    rw [if_neg (by omega)] at hf
    have hlen := WRS_len s
    have hcast : ((k : Int) + 1) = ((k + 1 : Nat) : Int) := by omega
    unfold b_X0_addRows_25 c_X0_addRows_25
    simp only [zl1, zI_add, hcast]
    refine wf (fun d => absurd ((zI_lt (by omega)).mp d) (by omega)) ?_
    refine wb (X2_has_is (CLNX_k e (i := 3 + j) (by omega) (by omega)) (by omega)) ?_
    rw [hK k]
    by_cases c1 : K k = true
    · rw [if_pos c1] at hf
      rw [tB_1 c1]
      refine wf (by decide) ?_
      have emit : ∀ (tl : List WR) (f' : Int), rowsF (wat ws j) K f k (m + 1) = ((wat ws j).1, (st : Int), (k : Int), (wat ws j).2.2.2) :: tl → tl = rowsF (wat ws j) K f' ((k + 1 : Nat) : Int) m → (f' = if m = 0 then -1 else if K ((k + 1 : Nat) : Int) = true then (if st = k + 1 then -1 else (st : Int)) else -1) → WP (b_X0_addRows_68 c wa (zI j) (b_X0_addRows_25 c wa (zI j) n) h (c + 10 + j) (zI (wat ws j).2.2.1) (zI st) (zI k)) (fun h' => CLNX h' c (rs ++ rowsF (wat ws j) K f k (m + 1)) L ∧ OFF c 158 h0 h') := by
        intro tl f' h1 h2 h3
        rw [h1] at hb ⊢
        rw [List.length_cons] at hb
        unfold b_X0_addRows_68
        simp only [zl1, zI_add, hcast]
        refine wb (CLNX_0 e).1 ?_
        refine wb (X6_numberAt_is s (by omega)) ?_
        refine wb (X6_valueAt_is s (by omega)) ?_
        have hwr : WRS h (c + 1) 348 rs := by
          obtain ⟨G, e0, e1, e2, e3, e4⟩ := e
          exact e3
        refine wpb (X6_add_is hwr _ _ _ _ (by omega)) ?_
        rintro h4 ⟨q5, q6⟩
        have h9 := ih n h4 _ st (k + 1) (by omega) (by omega) (by omega) (CLNX_res e q5 q6) (WRS_off s q6 (by omega)) (OFF_trans o (OFF_wide q6 (by omega))) f' h3 (by
          rw [← h2, List.length_append, List.length_singleton]
          omega)
        rw [← h2] at h9
        rw [List.append_assoc] at h9
        exact h9
      by_cases c2 : m = 0
      · refine wt ((zI_inj (by omega)).mpr (by omega)) ?_
        subst c2
        refine emit [] (-1) ?_ (by rw [rowsF_0, if_pos rfl]) (by rw [if_pos rfl])
        rw [rowsF_succ, if_pos c1]
        by_cases c3 : st = k
        · subst c3
          rw [if_pos rfl] at hf
          rw [if_pos hf, rowsF_0, if_neg (by omega), Int.add_sub_cancel]
        · rw [if_neg c3] at hf
          rw [if_neg (by omega), rowsF_0, if_neg (by omega), Int.add_sub_cancel, hf]
      · refine wf (fun d => absurd ((zI_inj (by omega)).mp d) (by omega)) ?_
        refine wb (X2_has_is (CLNX_k e (i := 3 + j) (by omega) (by omega)) (by omega)) ?_
        rw [hK (k + 1)]
        obtain ⟨m, rfl⟩ : ∃ k, m = k + 1 := ⟨m - 1, by omega⟩
        by_cases c3 : K ((k + 1 : Nat) : Int) = true
        · rw [tB_1 c3]
          refine wf (by decide) ?_
          have h8 : rowsF (wat ws j) K f k (m + 1 + 1) = rowsF (wat ws j) K (st : Int) ((k + 1 : Nat) : Int) (m + 1) := by
            rw [rowsF_succ, if_pos c1]
            by_cases c4 : st = k
            · subst c4
              rw [if_pos rfl] at hf
              rw [if_pos hf, hcast]
            · rw [if_neg c4] at hf
              rw [if_neg (by omega), hcast, hf]
          rw [h8] at hb ⊢
          exact ih n h rs st (k + 1) (by omega) (by omega) (by omega) e s o (st : Int) (by rw [if_neg (by omega), if_pos c3, if_neg (by omega)]) hb
        · rw [tB_0 c3]
          refine wt rfl ?_
          refine emit (rowsF (wat ws j) K (-1) ((k + 1 : Nat) : Int) (m + 1)) (-1) ?_ rfl (by rw [if_neg (by omega), if_neg c3])
          have h8 : rowsF (wat ws j) K f k (m + 1 + 1) = rowsF (wat ws j) K (st : Int) ((k + 1 : Nat) : Int) (m + 1) := by
            rw [rowsF_succ, if_pos c1]
            by_cases c4 : st = k
            · subst c4
              rw [if_pos rfl] at hf
              rw [if_pos hf, hcast]
            · rw [if_neg c4] at hf
              rw [if_neg (by omega), hcast, hf]
          rw [h8, rowsF_succ, if_neg c3, if_neg (by omega), rowsF_succ, if_neg c3, if_pos rfl, ← hcast, Int.add_sub_cancel]
    · rw [if_neg c1] at hf
      subst hf
      rw [tB_0 c1]
      refine wt rfl ?_
      rw [rowsF_succ, if_neg c1, if_pos rfl, hcast] at hb ⊢
      exact ih n h rs (k + 1) (k + 1) (by omega) (by omega) (by omega) e s o (-1) (by
        by_cases c4 : m = 0
        · rw [if_pos c4]
        · rw [if_neg c4, if_pos rfl]
          split <;> rfl) hb
theorem X0_addRows_is {h : HP} {c wa cap : Nat} {ws rs : List WR} {L : Nat → Nat → Bool} (e : CLNX h c rs L) (s : WRS h wa cap ws) (hw : WSOK ws) (hd : wa + 5 ≤ c ∨ c + 158 ≤ wa) {j : Nat} (hj : j < ws.length) (hj2 : j < 148) {K : Int → Bool} (hK : ∀ k : Nat, L (3 + j) k = K k) (hb : rs.length + (rws (wat ws j) K).length ≤ 348) : WP (f_X0_addRows h c wa (zI j)) (fun h' => CLNX h' c (rs ++ rws (wat ws j) K) L ∧ OFF c 158 h h') := by
  have hwj := WOK_at hw (j := j) (by omega)
  unfold WOK at hwj
  have hlen := WRS_len s
  unfold f_X0_addRows b_X0_addRows_0
  refine wb (CLNX_kO e) ?_
  refine wb (CLNX_0 e).2.1 ?_
  refine wb (CLNX_a e hj2) ?_
  refine wb (X6_lastAt_is s (by omega)) ?_
  refine wb (X6_firstAt_is s (by omega)) ?_
  have hc : (wat ws j).2.1 = (((wat ws j).2.1.toNat : Nat) : Int) := by omega
  have h1 := aR_loop (v0 := zI (wat ws j).2.2.1) hw hd hj hj2 hK (h0 := h) rfl ((wat ws j).2.2.1 + 1 - (wat ws j).2.1).toNat FU h rs (wat ws j).2.1.toNat (wat ws j).2.1.toNat (by unfold FU; omega) (by omega) (Nat.le_refl _) e s (OFF_refl _ _ _) (-1) (by
    by_cases c4 : ((wat ws j).2.2.1 + 1 - (wat ws j).2.1).toNat = 0
    · rw [if_pos c4]
    · rw [if_neg c4, if_pos rfl]
      split <;> rfl) (by
    rw [← hc]
    exact hb)
  rw [← hc] at h1
  exact h1
theorem clean_loop {c a cap cl : Nat} {S : SG} {L : Nat → Nat → Bool} (hw : WSOK S.1) (hd : a + 8 ≤ c ∨ c + 158 ≤ a) {p q : Nat} {o : Bool} (hq : q ≤ S.1.length) (hq2 : q ≤ 148) (hL : ∀ i, p ≤ i → i < q → ∀ k : Nat, L (3 + i) k = kpB S.1 S.2.2.1 p q o i k) {h0 : HP} : ∀ (r n : Nat) (h : HP) (rs : List WR) (j : Nat), r < n → j + r = q → p ≤ j → CLNX h c rs L → STO h cl a cap S → OFF c 158 h0 h → rs.length + (clF S.1 S.2.2.1 p q o j r).length ≤ 348 → WP (b_X0_clean_73 c a n h (zI q) (zI j)) (fun r' => r'.1 = zI (rs ++ clF S.1 S.2.2.1 p q o j r).length ∧ CLNX r'.2 c (rs ++ clF S.1 S.2.2.1 p q o j r) L ∧ OFF c 158 h0 r'.2) := by
  intro r
  induction r with
  | zero =>
    intro n h rs j hn hj hp e s of hb
    obtain ⟨n, rfl⟩ : ∃ k, n = k + 1 := ⟨n - 1, by omega⟩
    have hwr : WRS h (c + 1) 348 rs := by
      obtain ⟨G, e0, e1, e2, e3, e4⟩ := e
      exact e3
    unfold b_X0_clean_73 c_X0_clean_73
    refine wt ((zI_le (by omega)).mpr (by omega)) ?_
    refine wb (CLNX_0 e).1 ?_
    refine wb (X6_size_is hwr) ?_
    rw [show clF S.1 S.2.2.1 p q o j 0 = [] from rfl, List.append_nil]
    exact wr ⟨rfl, e, of⟩
  | succ r ih =>
    intro n h rs j hn hj hp e s of hb
    obtain ⟨n, rfl⟩ : ∃ k, n = k + 1 := ⟨n - 1, by omega⟩
    rw [clF_succ, List.length_append] at hb
    unfold b_X0_clean_73 c_X0_clean_73
    refine wf (fun d => absurd ((zI_le (by omega)).mp d) (by omega)) ?_
    refine wb (STO_w s).1 ?_
    refine wpb (X0_addRows_is e (STO_w s).2.1 hw (by omega) (j := j) (by omega) (by omega) (hL j hp (by omega)) (by omega)) ?_
    rintro h1 ⟨q1, q2⟩
    have h9 := ih n h1 _ (j + 1) (by omega) (by omega) (by omega) q1 (STO_off s q2 (by omega)) (OFF_trans of q2) (by
      rw [List.length_append]
      omega)
    rw [cast1] at h9
    rw [zl1, zI_add, clF_succ, ← List.append_assoc]
    exact h9
theorem X0_clean_is {h : HP} {c a cap cl : Nat} {rs : List WR} {L : Nat → Nat → Bool} {S : SG} (e : CLNX h c rs L) (s : STO h cl a cap S) (hw : WSOK S.1) (ho : ORD S.1) {M : Int} (hy : YOK S.2.2.1 M) (hM : M < 1000000) (hd : a + 8 ≤ c ∨ c + 158 ≤ a) {nw ol : Int} (hnw : -1000000 < nw ∧ nw < 1000000) (hol : -1000000 < ol ∧ ol < 1000000) {p q : Nat} (hs : sOf S ol = p) (he : eOf S nw = q) (hp : p ≤ q) (hq : q ≤ S.1.length) (hq2 : q ≤ 148) {o : Bool} (hoo : o = decide (ol = S.2.1.length - 1)) (hb : (clL S.1 S.2.2.1 p q o).length ≤ 348) : WP (f_X0_clean h c a (zI nw) (zI ol)) (fun r => r.1 = zI (clL S.1 S.2.2.1 p q o).length ∧ (∃ L', CLNX r.2 c (clL S.1 S.2.2.1 p q o) L') ∧ OFF c 158 h r.2) := by
  have hwr : WRS h (c + 1) 348 rs := by
    obtain ⟨G, e0, e1, e2, e3, e4⟩ := e
    exact e3
  have hrn : S.2.1.length ≤ 6 := by
    obtain ⟨fe, fy, e0, e1, e2, e3, r1, r2, c1, c2⟩ := s
    exact r1
  unfold f_X0_clean b_X0_clean_0
  refine wb (CLNX_kO e) ?_
  refine wb (CLNX_0 e).1 ?_
  refine wpb (X6_empty_is hwr) ?_
  rintro h1 ⟨q1, q2⟩
  have e1 := CLNX_res e q1 q2
  have s1 := STO_off s q2 (by omega)
  have o1 : OFF c 158 h h1 := OFF_wide q2 (by omega)
  refine wb (X3_startOf_is s1 hol) ?_
  refine wb (X3_endOf_is s1 hnw) ?_
  rw [hs, he, zl0]
  refine wf (fun d => absurd ((zI_lt (by omega)).mp d) (by omega)) ?_
  refine wb (CLNX_0 e1).2.1 ?_
  refine wb (CLNX_n e1) ?_
  refine wt ((zI_le (by omega)).mpr (by omega)) ?_
  refine wpb (X0_dropHidden_is e1 s1 hw ho hy hM hd hp hq hq2) ?_
  rintro h2 ⟨⟨L2, e2, hL2⟩, o2⟩
  have s2 := STO_off s1 o2 (by omega)
  refine wb (X3_runs_is s2) ?_
  rw [zl1, zI_sub]
  by_cases c1 : ol = S.2.1.length - 1
  · rw [decide_eq_true c1] at hoo
    subst hoo
    refine wt ((zI_inj (by omega)).mpr c1) ?_
    refine wb (STO_w s2).1 ?_
    refine wpb (X0_dropNeedless_is e2 (STO_w s2).2.1 hw S.2.2.1 (by omega) hp hq hq2 hL2) ?_
    rintro h3 ⟨⟨L3, e3, hL3⟩, o3⟩
    have h9 := clean_loop hw hd hq hq2 hL3 (h0 := h) (q - p) FU h3 [] p (by unfold FU; omega) (by omega) (Nat.le_refl _) e3 (STO_off s2 o3 (by omega)) (OFF_trans o1 (OFF_trans o2 o3)) (by
      rw [List.length_nil, Nat.zero_add]
      exact hb)
    rw [List.nil_append] at h9
    exact wm h9 fun r hr => ⟨hr.1, ⟨L3, hr.2.1⟩, hr.2.2⟩
  · rw [decide_eq_false c1] at hoo
    subst hoo
    refine wf (fun d => c1 ((zI_inj (by omega)).mp d)) ?_
    have hL3 : ∀ i, p ≤ i → i < q → ∀ k : Nat, L2 (3 + i) k = kpB S.1 S.2.2.1 p q false i k := fun i h5 h6 k => by
      rw [hL2 i h5 h6 k]
      unfold kpB
      rw [Bool.not_false, Bool.true_or, Bool.true_or, Bool.and_true]
    have h9 := clean_loop hw hd hq hq2 hL3 (h0 := h) (q - p) FU h2 [] p (by unfold FU; omega) (by omega) (Nat.le_refl _) e2 s2 (OFF_trans o1 o2) (by
      rw [List.length_nil, Nat.zero_add]
      exact hb)
    rw [List.nil_append] at h9
    exact wm h9 fun r hr => ⟨hr.1, ⟨L2, hr.2.1⟩, hr.2.2⟩
