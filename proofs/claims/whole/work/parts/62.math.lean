theorem upd_upd (v : Nat → Int32) (k : Nat) (a b : Int32) : upd (upd v k a) k b = upd v k b := by
  funext i
  by_cases c : i = k
  · rw [upd_eq c, upd_eq c]
  · rw [upd_ne c, upd_ne c, upd_ne c]
theorem leave2 {h : HP} {m : Nat} {v : Nat → Int32} {S : SG} {ls : List WR} {D : Nat → Bool} (e : CLR h m (upd v 10 (zI ls.length)) S ls D) {j : Nat} (hj : j < S.1.length) (a b : Int) (hl : ls.length < 400) : WP (f_X8_leave h m (zI j) (zI a) (zI b)) (fun h' => CLR h' m (upd v 10 (zI (ls ++ [((wat S.1 j).1, a, b, (wat S.1 j).2.2.2)]).length)) S (ls ++ [((wat S.1 j).1, a, b, (wat S.1 j).2.2.2)]) D ∧ OFC m h h') := by
  have h1 := X8_leave_is e hj a b hl
  rw [upd_upd] at h1
  rw [List.length_append, List.length_singleton]
  exact h1
theorem cut_loop {m : Nat} {v : Nat → Int32} {S : SG} {D : Nat → Bool} (hw : WSOK S.1) (ho : ORD S.1) (he : ENT S.1) {M : Int} (hy : YOK S.2.2.1 M) (hM : M < 1000000) {p q j : Nat} {o : Bool} (hp : p ≤ j) (hj : j < q) (hq : q ≤ S.1.length) (hD : ∀ i, p ≤ i → i < q → D i = (enB (wat S.1 i) && !k1B S.1 S.2.2.1 q i (wat S.1 i).2.1)) (hne : enB (wat S.1 j) = false) {h0 : HP} : ∀ (r n : Nat) (h : HP) (ls : List WR) (f k : Int), r < n → k + r = (wat S.1 j).2.2.1 + 1 → (wat S.1 j).2.1 ≤ k → (f = -1 ∨ (0 ≤ f ∧ f < 1000)) → CLR h m (upd v 10 (zI ls.length)) S ls D → OFC m h0 h → ls.length + (rowsF (wat S.1 j) (kpB S.1 S.2.2.1 p q o j) f k r).length ≤ 400 → WP (b_X8_cut_15 m (zI j) (zI p) (zI q) (tB (o = true)) n h (zI f) (zI k)) (fun h' => CLR h' m (upd v 10 (zI (ls ++ rowsF (wat S.1 j) (kpB S.1 S.2.2.1 p q o j) f k r).length)) S (ls ++ rowsF (wat S.1 j) (kpB S.1 S.2.2.1 p q o j) f k r) D ∧ OFC m h0 h') := by
  have hwj := WOK_at hw (j := (j : Int)) (by omega)
  unfold WOK at hwj
  intro r
  induction r with
  | zero =>
    intro n h ls f k hn hk hfk hf e of hb
    obtain ⟨n, rfl⟩ : ∃ k, n = k + 1 := ⟨n - 1, by omega⟩
    rw [rowsF_0] at hb ⊢
    unfold b_X8_cut_15 c_X8_cut_15
    rw [rq2 (CLR_R e) (by omega), show (-1 : Int32) = zI (-1) by decide]
    refine wt ((zI_lt (by omega)).mpr (by omega)) ?_
    by_cases c : f = -1
    · refine wt ((zI_inj (by omega)).mpr c) ?_
      rw [if_pos c, List.append_nil]
      exact wr ⟨e, of⟩
    · refine wf (fun d => c ((zI_inj (by omega)).mp d)) ?_
      rw [if_neg c] at hb ⊢
      rw [rq2 (CLR_R e) (by omega)]
      refine wpb (leave2 e (by omega) f (wat S.1 j).2.2.1 (by rw [List.length_singleton] at hb; omega)) ?_
      rintro h1 ⟨q1, q2⟩
      rw [show k - 1 = (wat S.1 j).2.2.1 by omega]
      exact wr ⟨q1, OFC_trans of q2⟩
  | succ r ih =>
    intro n h ls f k hn hk hfk hf e of hb
    obtain ⟨n, rfl⟩ : ∃ k, n = k + 1 := ⟨n - 1, by omega⟩
    have hwc : wcB (wat S.1 j) k = true := wcB_iff.mpr (by omega)
    rw [rowsF_succ] at hb ⊢
    have key : ∀ s : Bool, s = kpB S.1 S.2.2.1 p q o j k → WP (b_X8_cut_65 m (zI j) (zI p) (zI q) (tB (o = true)) (b_X8_cut_15 m (zI j) (zI p) (zI q) (tB (o = true)) n) h (zI f) (zI k) (tB (s = true))) (fun h' => CLR h' m (upd v 10 (zI (ls ++ (if kpB S.1 S.2.2.1 p q o j k = true then (if f = -1 then rowsF (wat S.1 j) (kpB S.1 S.2.2.1 p q o j) k (k + 1) r else rowsF (wat S.1 j) (kpB S.1 S.2.2.1 p q o j) f (k + 1) r) else (if f = -1 then rowsF (wat S.1 j) (kpB S.1 S.2.2.1 p q o j) (-1) (k + 1) r else ((wat S.1 j).1, f, k - 1, (wat S.1 j).2.2.2) :: rowsF (wat S.1 j) (kpB S.1 S.2.2.1 p q o j) (-1) (k + 1) r))).length)) S (ls ++ (if kpB S.1 S.2.2.1 p q o j k = true then (if f = -1 then rowsF (wat S.1 j) (kpB S.1 S.2.2.1 p q o j) k (k + 1) r else rowsF (wat S.1 j) (kpB S.1 S.2.2.1 p q o j) f (k + 1) r) else (if f = -1 then rowsF (wat S.1 j) (kpB S.1 S.2.2.1 p q o j) (-1) (k + 1) r else ((wat S.1 j).1, f, k - 1, (wat S.1 j).2.2.2) :: rowsF (wat S.1 j) (kpB S.1 S.2.2.1 p q o j) (-1) (k + 1) r))) D ∧ OFC m h0 h') := by
      intro s hs
      rw [← hs] at hb ⊢
      unfold b_X8_cut_65 b_X8_cut_85
      simp only [show (-1 : Int32) = zI (-1) by decide, show zI k + 1 = zI (k + 1) by rw [zl1, zI_add], show zI k - 1 = zI (k - 1) by rw [zl1, zI_sub]]
      cases s with
      | true =>
        rw [if_pos rfl] at hb ⊢
        rw [tB_1 (p := true = true) rfl]
        refine wf (by decide) ?_
        by_cases c : f = -1
        · rw [if_pos c] at hb ⊢
          refine wt ((zI_inj (by omega)).mpr c) ?_
          exact ih n h ls k (k + 1) (by omega) (by omega) (by omega) (Or.inr (by omega)) e of hb
        · rw [if_neg c] at hb ⊢
          refine wf (fun d => c ((zI_inj (by omega)).mp d)) ?_
          refine wf (by decide) ?_
          exact ih n h ls f (k + 1) (by omega) (by omega) (by omega) hf e of hb
      | false =>
        rw [if_neg (show ¬ false = true by decide)] at hb ⊢
        rw [tB_0 (p := false = true) (by decide)]
        refine wt rfl ?_
        refine wt rfl ?_
        by_cases c : f = -1
        · rw [if_pos c] at hb ⊢
          refine wt ((zI_inj (by omega)).mpr c) ?_
          subst c
          exact ih n h ls (-1) (k + 1) (by omega) (by omega) (by omega) (Or.inl rfl) e of hb
        · rw [if_neg c, List.length_cons] at hb
          rw [if_neg c]
          refine wf (fun d => c ((zI_inj (by omega)).mp d)) ?_
          refine wpb (leave2 e (by omega) f (k - 1) (by omega)) ?_
          rintro h1 ⟨q1, q2⟩
          have h9 := ih n h1 _ (-1) (k + 1) (by omega) (by omega) (by omega) (Or.inl rfl) q1 (OFC_trans of q2) (by
            rw [List.length_append, List.length_singleton]
            omega)
          rw [List.append_assoc] at h9
          exact h9
    have k0 := key false
    have k1 := key true
    rw [tB_0 (p := false = true) (by decide)] at k0
    rw [tB_1 (p := true = true) rfl] at k1
    have h5 := X8_isCovered_is (CLR_R e) hw hy hM (j := j) (by omega) (k := k) (by omega) (p := p) (q := q) (by omega) hq true
    rw [tB_1 (p := true = true) rfl, cov_hid ho hp hj hq hwc (by rw [hne]; rfl)] at h5
    unfold b_X8_cut_15 c_X8_cut_15
    rw [rq2 (CLR_R e) (by omega)]
    refine wf (fun d => absurd ((zI_lt (by omega)).mp d) (by omega)) ?_
    refine wb h5 ?_
    by_cases c1 : exB (hidB S.1 S.2.2.1 j k) (j + 1) (q - (j + 1)) = true
    · rw [tB_1 c1]
      refine wf (by decide) (k0 ?_)
      unfold kpB k1B
      rw [c1]
      simp
    · have c2 := Bool.eq_false_iff.mpr c1
      have h7 : k1B S.1 S.2.2.1 q j k = true := by
        unfold k1B
        rw [c2, hwc]
        rfl
      rw [tB_0 c1]
      refine wt rfl ?_
      cases o with
      | false =>
        rw [tB_0 (p := false = true) (by decide)]
        refine wt rfl (k1 ?_)
        unfold kpB
        rw [h7]
        rfl
      | true =>
        rw [tB_1 (p := true = true) rfl]
        refine wf (by decide) ?_
        have h6 := X8_hasOlder_is e hw (j := j) (by omega) (k := k) (by omega) (p := p) (q := q) (by omega) hq
        rw [old_exB ho he hp hj hq hD hwc] at h6
        refine wb h6 ?_
        by_cases c3 : exB (fun i => enB (wat S.1 i) && k1B S.1 S.2.2.1 q i k) p (j - p) = true
        · rw [tB_1 c3]
          refine wf (by decide) (k1 ?_)
          unfold kpB
          rw [h7, hne, c3]
          rfl
        · rw [tB_0 c3]
          refine wt rfl (k0 ?_)
          unfold kpB
          rw [h7, hne, Bool.eq_false_iff.mpr c3]
          rfl
theorem X8_cut_is {h : HP} {m : Nat} {v : Nat → Int32} {S : SG} {D : Nat → Bool} {ls : List WR} (e : CLR h m (upd v 10 (zI ls.length)) S ls D) (hw : WSOK S.1) (ho : ORD S.1) (he : ENT S.1) {M : Int} (hy : YOK S.2.2.1 M) (hM : M < 1000000) {p q j : Nat} {o : Bool} (hp : p ≤ j) (hj : j < q) (hq : q ≤ S.1.length) (hD : ∀ i, p ≤ i → i < q → D i = (enB (wat S.1 i) && !k1B S.1 S.2.2.1 q i (wat S.1 i).2.1)) (hne : enB (wat S.1 j) = false) (hb : ls.length + (rws (wat S.1 j) (kpB S.1 S.2.2.1 p q o j)).length ≤ 400) : WP (f_X8_cut h m (zI j) (zI p) (zI q) (tB (o = true))) (fun h' => CLR h' m (upd v 10 (zI (ls ++ rws (wat S.1 j) (kpB S.1 S.2.2.1 p q o j)).length)) S (ls ++ rws (wat S.1 j) (kpB S.1 S.2.2.1 p q o j)) D ∧ OFC m h h') := by
  have hwj := WOK_at hw (j := (j : Int)) (by omega)
  unfold WOK at hwj
  unfold f_X8_cut b_X8_cut_0
  refine wb (REF_b (CLR_R e)).2 ?_
  rw [rq1 (CLR_R e) (by omega), show (-1 : Int32) = zI (-1) by decide]
  exact cut_loop hw ho he hy hM hp hj hq hD hne (h0 := h) ((wat S.1 j).2.2.1 + 1 - (wat S.1 j).2.1).toNat FU h ls (-1) (wat S.1 j).2.1 (by unfold FU; omega) (by omega) (Int.le_refl _) (Or.inl rfl) e (fun _ _ _ _ => rfl) hb
theorem rws_1 {w : WR} {K : Int → Bool} (hw : WOK w) (he : w.2.1 = w.2.2.1) : rws w K = if K w.2.1 = true then [(w.1, w.2.1, w.2.2.1, w.2.2.2)] else [] := by
  unfold WOK at hw
  unfold rws
  rw [show (w.2.2.1 + 1 - w.2.1).toNat = 0 + 1 by omega, rowsF_succ]
  by_cases c : K w.2.1 = true
  · rw [if_pos c, if_pos c, if_pos rfl, rowsF_0, if_neg (by omega), show w.2.1 + 1 - 1 = w.2.2.1 by omega]
  · rw [if_neg c, if_neg c, if_pos rfl, rowsF_0, if_pos rfl]
theorem X8clean_loop {m : Nat} {v : Nat → Int32} {S : SG} {D : Nat → Bool} (hw : WSOK S.1) (ho : ORD S.1) (he : ENT S.1) {M : Int} (hy : YOK S.2.2.1 M) (hM : M < 1000000) {p q : Nat} {o : Bool} (hq : q ≤ S.1.length) (hD : ∀ i, p ≤ i → i < q → D i = (enB (wat S.1 i) && !k1B S.1 S.2.2.1 q i (wat S.1 i).2.1)) {h0 : HP} : ∀ (r n : Nat) (h : HP) (ls : List WR) (j : Nat), r < n → j + r = q → p ≤ j → CLR h m (upd v 10 (zI ls.length)) S ls D → OFC m h0 h → ls.length + (clF S.1 S.2.2.1 p q o j r).length ≤ 400 → WP (b_X8_clean_67 m (zI p) (zI q) (tB (o = true)) n h (zI j)) (fun h' => CLR h' m (upd v 10 (zI (ls ++ clF S.1 S.2.2.1 p q o j r).length)) S (ls ++ clF S.1 S.2.2.1 p q o j r) D ∧ OFC m h0 h') := by
  intro r
  induction r with
  | zero =>
    intro n h ls j hn hj hp e of hb
    obtain ⟨n, rfl⟩ : ∃ k, n = k + 1 := ⟨n - 1, by omega⟩
    have hb0 := (REF_b (CLR_R e)).1
    unfold b_X8_clean_67 c_X8_clean_67
    refine wt ((zI_le (by omega)).mpr (by omega)) ?_
    rw [show clF S.1 S.2.2.1 p q o j 0 = [] from rfl, List.append_nil]
    exact wr ⟨e, of⟩
  | succ r ih =>
    intro n h ls j hn hj hp e of hb
    obtain ⟨n, rfl⟩ : ∃ k, n = k + 1 := ⟨n - 1, by omega⟩
    have hb0 := (REF_b (CLR_R e)).1
    have hwj := WOK_at hw (j := (j : Int)) (by omega)
    rw [clF_succ, List.length_append] at hb
    unfold b_X8_clean_67 c_X8_clean_67
    refine wf (fun d => absurd ((zI_le (by omega)).mp d) (by omega)) ?_
    refine wb (X8_isEntry_is (CLR_R e) hw (by omega)) ?_
    rw [show zI (j : Int) + 1 = zI ((j + 1 : Nat) : Int) by rw [zl1, zI_add, cast1], clF_succ, ← List.append_assoc]
    by_cases c1 : 0 < (wat S.1 j).2.2.2
    · have hent := he _ (wat_mem (j := (j : Int)) (by omega)) c1
      rw [tB_1 c1]
      refine wf (by decide) ?_
      have e2 := e
      obtain ⟨k0, ⟨f, k1, kq⟩, k2, ⟨g, k3, k4⟩, k5, ⟨d, k6, k7⟩⟩ := e2
      have h8 : aZ h (m + 8) (zI j) = some (tB (D j = true)) := by
        rw [aZ_e k6 (by omega), Int.toNat_natCast, k7 j (by omega)]
      refine wb (gR_e k0 rfl) ?_
      refine wb h8 ?_
      have hk : kpB S.1 S.2.2.1 p q o j (wat S.1 j).2.1 = !D j := by
        rw [hD j hp (by omega)]
        unfold kpB
        rw [enB_iff.mpr c1]
        simp
      rw [rws_1 hwj hent, hk] at hb ⊢
      by_cases c2 : D j = true
      · rw [tB_1 c2]
        refine wf (by decide) ?_
        rw [c2, if_neg (show ¬ (!true) = true by decide)] at hb ⊢
        rw [List.append_nil]
        exact ih n h ls (j + 1) (by omega) (by omega) (by omega) e of (by rw [List.length_nil] at hb; omega)
      · rw [tB_0 c2]
        refine wt rfl ?_
        rw [Bool.eq_false_iff.mpr c2, if_pos (show (!false) = true from rfl)] at hb ⊢
        rw [List.length_singleton] at hb
        rw [rq1 (CLR_R e) (by omega), rq2 (CLR_R e) (by omega)]
        refine wpb (leave2 e (by omega) (wat S.1 j).2.1 (wat S.1 j).2.2.1 (by omega)) ?_
        rintro h1 ⟨q1, q2⟩
        exact ih n h1 _ (j + 1) (by omega) (by omega) (by omega) q1 (OFC_trans of q2) (by
          rw [List.length_append, List.length_singleton]
          omega)
    · rw [tB_0 c1]
      refine wt rfl ?_
      refine wpb (X8_cut_is e hw ho he hy hM hp (by omega) hq hD (decide_eq_false c1) (by omega)) ?_
      rintro h1 ⟨q1, q2⟩
      exact ih n h1 _ (j + 1) (by omega) (by omega) (by omega) q1 (OFC_trans of q2) (by
        rw [List.length_append]
        omega)
theorem CLR_D {h : HP} {m : Nat} {v : Nat → Int32} {S : SG} {ls : List WR} {D : Nat → Bool} (e : CLR h m v S ls D) {j : Nat} (hj : j < 48) (b : Bool) : WP (wZ h (m + 8) (zI j) (tB (b = true))) (fun h' => CLR h' m v S ls (fun i => if i = j then b else D i) ∧ OFC m h h') := by
  obtain ⟨k0, ⟨f, k1, kq⟩, k2, ⟨g, k3, k4⟩, k5, ⟨d, k6, k7⟩⟩ := e
  refine weq (wZ_e k6 (by omega) b) ⟨⟨MOB_ne k0 (by omega), ⟨f, ARR_ne k1 (by omega), kq⟩, k2, ⟨g, ARR_ne k3 (by omega), k4⟩, k5, ⟨_, hup_same _ _ _, fun i hi => ?_⟩⟩, OFC_up (fun _ _ _ _ => rfl) (by omega)⟩
  show _ = tB ((if i = j then b else D i) = true)
  by_cases c : i = j
  · rw [upd_eq (by omega), if_pos c]
  · rw [upd_ne (by omega), if_neg c]
    exact k7 i hi
theorem X8drop_loop {m : Nat} {v : Nat → Int32} {S : SG} (hw : WSOK S.1) (ho : ORD S.1) (he : ENT S.1) {M : Int} (hy : YOK S.2.2.1 M) (hM : M < 1000000) {p q : Nat} {o : Bool} (hpq : p ≤ q) (hq : q ≤ S.1.length) (hb : (clL S.1 S.2.2.1 p q o).length ≤ 400) {h0 : HP} : ∀ (r n : Nat) (h : HP) (D : Nat → Bool) (j : Nat), r < n → j + r = q → p ≤ j → CLR h m (upd v 10 (zI 0)) S [] D → OFC m h0 h → (∀ i, p ≤ i → i < j → D i = (enB (wat S.1 i) && !k1B S.1 S.2.2.1 q i (wat S.1 i).2.1)) → WP (b_X8_clean_8 m (zI p) (zI q) (tB (o = true)) n h (zI j)) (fun h' => (∃ D', CLR h' m (upd v 10 (zI (clL S.1 S.2.2.1 p q o).length)) S (clL S.1 S.2.2.1 p q o) D') ∧ OFC m h0 h') := by
  intro r
  induction r with
  | zero =>
    intro n h D j hn hj hp e of hD
    obtain ⟨n, rfl⟩ : ∃ k, n = k + 1 := ⟨n - 1, by omega⟩
    have hb0 := (REF_b (CLR_R e)).1
    unfold b_X8_clean_8 c_X8_clean_8
    refine wt ((zI_le (by omega)).mpr (by omega)) ?_
    have h9 := X8clean_loop (o := o) hw ho he hy hM hq (fun i h1 h2 => hD i h1 (by omega)) (h0 := h0) (q - p) FU h [] p (by unfold FU; omega) (by omega) (Nat.le_refl _) e of (by
      rw [List.length_nil, Nat.zero_add]
      exact hb)
    rw [List.nil_append] at h9
    exact wm h9 fun h' hh => ⟨⟨D, hh.1⟩, hh.2⟩
  | succ r ih =>
    intro n h D j hn hj hp e of hD
    obtain ⟨n, rfl⟩ : ∃ k, n = k + 1 := ⟨n - 1, by omega⟩
    have hb0 := (REF_b (CLR_R e)).1
    have hwj := WOK_at hw (j := (j : Int)) (by omega)
    unfold WOK at hwj
    have hm11 : gR 8 11 h m = some (m + 8) := by
      obtain ⟨k0, -⟩ := e
      exact gR_e k0 rfl
    have key : ∀ s : Bool, s = (enB (wat S.1 j) && !k1B S.1 S.2.2.1 q j (wat S.1 j).2.1) → WP (b_X8_clean_57 m (zI p) (zI q) (tB (o = true)) (b_X8_clean_8 m (zI p) (zI q) (tB (o = true)) n) h (zI j) (m + 8) (zI j) (tB (s = true))) (fun h' => (∃ D', CLR h' m (upd v 10 (zI (clL S.1 S.2.2.1 p q o).length)) S (clL S.1 S.2.2.1 p q o) D') ∧ OFC m h0 h') := by
      intro s hs
      unfold b_X8_clean_57
      refine wpb (CLR_D e (by omega) s) ?_
      rintro h1 ⟨q1, q2⟩
      rw [show zI (j : Int) + 1 = zI ((j + 1 : Nat) : Int) by rw [zl1, zI_add, cast1]]
      refine ih n h1 _ (j + 1) (by omega) (by omega) (by omega) q1 (OFC_trans of q2) (fun i h3 h4 => ?_)
      by_cases c : i = j
      · rw [if_pos c, hs, c]
      · rw [if_neg c]
        exact hD i h3 (by omega)
    have k0 := key false
    have k1 := key true
    rw [tB_0 (p := false = true) (by decide)] at k0
    rw [tB_1 (p := true = true) rfl] at k1
    unfold b_X8_clean_8 c_X8_clean_8
    refine wf (fun d => absurd ((zI_le (by omega)).mp d) (by omega)) ?_
    refine wb hm11 ?_
    refine wb (X8_isEntry_is (CLR_R e) hw (by omega)) ?_
    by_cases c1 : 0 < (wat S.1 j).2.2.2
    · have hwc : wcB (wat S.1 j) (wat S.1 j).2.1 = true := wcB_iff.mpr (by omega)
      have h5 := X8_isCovered_is (CLR_R e) hw hy hM (j := j) (by omega) (k := (wat S.1 j).2.1) (by omega) (p := p) (q := q) (by omega) hq false
      rw [tB_0 (p := false = true) (by decide), cov_hid ho hp (by omega) hq hwc (by rw [enB_iff.mpr c1]; rfl)] at h5
      rw [tB_1 c1]
      refine wf (by decide) ?_
      rw [rq1 (CLR_R e) (by omega)]
      refine wb h5 ?_
      by_cases c2 : exB (hidB S.1 S.2.2.1 j (wat S.1 j).2.1) (j + 1) (q - (j + 1)) = true
      · rw [tB_1 c2]
        refine wf (by decide) (k1 ?_)
        unfold k1B
        rw [c2, enB_iff.mpr c1]
        simp
      · rw [tB_0 c2]
        refine wt rfl (k0 ?_)
        unfold k1B
        rw [Bool.eq_false_iff.mpr c2, hwc]
        simp
    · rw [tB_0 c1]
      refine wt rfl (k0 ?_)
      rw [show enB (wat S.1 j) = false from decide_eq_false c1]
      rfl
/-- the rows for cleaning stand -/
def ALO (h : HP) (m : Nat) : Prop := (∃ g, ARR h (m + 7) 1600 g) ∧ ∃ (d : Nat → Int32) (D : Nat → Bool), h (m + 8) = some (.inl (1, 48, .inl d)) ∧ ∀ i : Nat, i < 48 → d i = tB (D i = true)
theorem X8_clean_is {h : HP} {m : Nat} {v : Nat → Int32} {S : SG} (e : REF h m S) (e0 : MOB h m v) (al : ALO h m) (hw : WSOK S.1) (ho : ORD S.1) (he : ENT S.1) {M : Int} (hy : YOK S.2.2.1 M) (hM : M < 1000000) {p q : Nat} {o : Bool} (hpq : p ≤ q) (hq : q ≤ S.1.length) (hb : (clL S.1 S.2.2.1 p q o).length ≤ 400) : WP (f_X8_clean h m (zI p) (zI q) (tB (o = true))) (fun h' => (∃ D', CLR h' m (upd v 10 (zI (clL S.1 S.2.2.1 p q o).length)) S (clL S.1 S.2.2.1 p q o) D') ∧ OFC m h h') := by
  have hb0 := REF_b e
  obtain ⟨v', f, -, k1, kq⟩ := e
  obtain ⟨⟨g, k3⟩, d, D, k6, k7⟩ := al
  unfold f_X8_clean b_X8_clean_0
  refine wb hb0.2 ?_
  rw [zl0]
  refine wb (pI_e2 (fs2 := mrow m (upd v 10 (zI 0))) e0 (show 10 < 17 by omega) rfl) ?_
  exact X8drop_loop hw ho he hy hM hpq hq hb (h0 := h) (q - p) FU _ D p (by unfold FU; omega) (by omega) (Nat.le_refl _) ⟨hup_same _ _ _, ⟨f, ARR_ne k1 (by omega), kq⟩, upd_eq rfl, ⟨g, ARR_ne k3 (by omega), fun i hi => absurd hi (Nat.not_lt_zero _)⟩, Nat.zero_le _, ⟨d, (hup_ne _ _ (by omega)).trans k6, k7⟩⟩ (OFC_up (fun _ _ _ _ => rfl) (by omega)) (fun i h1 h2 => by omega)
