/-! the law's look at the writes -/
theorem aws_180 {x : Nat} {h : HP} {k18 : HP → Int32 → Int32 → Int32 → Int32 → Int32 → Option (Int32 × HP)} {k54 : HP → Int32 → Int32 → Int32 → Int32 → Int32 → Int32 → Int32 → Int32 → Int32 → Option (Int32 × HP)} {W E ones ls' : Int32} {ab i to nu : Int} {m j : Nat} {P : Int32 × HP → Prop}
    (hm : m < 100000) (hj : j < m) (c6 : j = m - 1 → f_X7_run h x (zI i) 3 = some (.inl (zI nu)))
    (hk : WP (k54 h W E (zI ab) 1 (zI i) (zI m) ones ((100 * zI nu) + zI to) (zI j + 1)) P) : WP (b_L_areWritesSo_180 x k18 k54 h W E (zI ab) (zI i) (zI m) ones (zI j) (zI nu) (zI to)) P := by
  unfold b_L_areWritesSo_180 b_L_areWritesSo_206
  rw [show zI m - 1 = zI (m - 1) by rw [zl1, zI_sub]]
  by_cases c : (j : Int) < m - 1
  · exact wt ((zI_lt (by omega)).mpr c) hk
  · refine wf (fun d => c ((zI_lt (by omega)).mp d)) ?_
    refine wrr (c6 (by omega)) ?_
    exact wt rfl hk
theorem aws_163 {x : Nat} {h : HP} {k18 : HP → Int32 → Int32 → Int32 → Int32 → Int32 → Option (Int32 × HP)} {k54 : HP → Int32 → Int32 → Int32 → Int32 → Int32 → Int32 → Int32 → Int32 → Int32 → Option (Int32 × HP)} {W E ones : Int32} {ab i to nu : Int} {m j : Nat} {P : Int32 × HP → Prop}
    (hm : m < 100000) (hj : j < m) (c5 : j = 0 → f_X7_run h x (zI i) 2 = some (.inl (zI nu))) (c6 : j = m - 1 → f_X7_run h x (zI i) 3 = some (.inl (zI nu)))
    (hk : WP (k54 h W E (zI ab) 1 (zI i) (zI m) ones ((100 * zI nu) + zI to) (zI j + 1)) P) : WP (b_L_areWritesSo_163 x k18 k54 h W E (zI ab) (zI i) (zI m) ones (zI j) (zI nu) (zI to)) P := by
  unfold b_L_areWritesSo_163
  have h1 := aws_180 (k18 := k18) (ls' := 0) hm hj c6 hk
  by_cases c : 0 < (j : Int)
  · exact wt (by rw [zl0]; exact (zI_lt (by omega)).mpr c) h1
  · refine wf (fun d => by rw [zl0] at d; exact c ((zI_lt (by omega)).mp d)) ?_
    refine wrr (c5 (by omega)) ?_
    exact wt rfl h1
theorem aws_117 {x : Nat} {h : HP} {k18 : HP → Int32 → Int32 → Int32 → Int32 → Int32 → Option (Int32 × HP)} {k54 : HP → Int32 → Int32 → Int32 → Int32 → Int32 → Int32 → Int32 → Int32 → Int32 → Option (Int32 × HP)} {W E s0 s1 : Int32} {ab i fr to va nu ls : Int} {m j : Nat} {P : Int32 × HP → Prop}
    (hm : m < 100000) (hj : j < m) (hr : (0 ≤ nu ∧ nu < 1000000) ∧ (0 ≤ fr ∧ fr < 1000) ∧ (0 ≤ to ∧ to < 1000) ∧ (0 ≤ va ∧ va < 1000) ∧ (0 ≤ ls ∧ ls < 200000000) ∧ 0 ≤ ab ∧ ab < 2000000)
    (c1 : ls < 100 * nu + fr) (c2 : nu < ab) (c3 : fr ≤ to) (c4 : va = 0 ∨ fr = to) (c5 : j = 0 → f_X7_run h x (zI i) 2 = some (.inl (zI nu))) (c6 : j = m - 1 → f_X7_run h x (zI i) 3 = some (.inl (zI nu)))
    (hk : WP (k54 h W E (zI ab) 1 (zI i) (zI m) (s0 + s1) ((100 * zI nu) + zI to) (zI j + 1)) P) : WP (b_L_areWritesSo_117 x k18 k54 h W E (zI ab) 1 (zI i) (zI m) (zI ls) (zI j) (zI nu) (zI fr) (zI to) (zI va) s0 s1) P := by
  unfold b_L_areWritesSo_117
  have h1 := aws_163 (k18 := k18) hm hj c5 c6 hk
  refine wf (by decide) ?_
  refine wf (fun d => by
    rw [show (100 : Int32) = zI 100 by decide, zI_mul, zI_add, zI_le (by omega)] at d
    omega) ?_
  refine wf (fun d => by
    rw [zI_le (by omega)] at d
    omega) ?_
  refine wf (fun d => by
    rw [zI_lt (by omega)] at d
    omega) ?_
  by_cases c : va = 0
  · exact wt (by rw [c, zl0]) h1
  · refine wf (fun d => by rw [zl0] at d; exact c ((zI_inj (by omega)).mp d)) ?_
    exact wt (by rw [show fr = to by omega]) h1
theorem aws_in {h : HP} {x : Nat} {A : AB} (e : CLS h x A) {M : Int} (H : LOK A M) {i : Int} (hi : -1 ≤ i ∧ i < A.1.2.1.length) {s m : Nat} (hs : sOf A.1 i = s) (he : eOf A.1 i = (s + m : Nat)) (hl : s + m ≤ A.1.1.length) (hn : m = 0 → i = -1) {ab W E : Int} (hab : ∀ j : Nat, j < s + m → (wat A.1.1 j).1 < ab) (hr : 0 ≤ ab ∧ ab < 2000000)
    {k18 : HP → Int32 → Int32 → Int32 → Int32 → Int32 → Option (Int32 × HP)} {P : Int32 × HP → Prop} (hk : WP (k18 h (zI (W + m)) (zI (E + cnt (fun q => 0 < (wat A.1.1 q).2.2.2) s m)) (zI (if m = 0 then ab else (wat A.1.1 s).1)) 1 (zI (i + 1))) P) :
    ∀ (r n j : Nat) (ls : Int), r < n → j + r = m → (j = 0 → ls = 0) → (0 < j → ls = 100 * (wat A.1.1 (s + j - 1 : Nat)).1 + (wat A.1.1 (s + j - 1 : Nat)).2.2.1) → WP (b_L_areWritesSo_54 x k18 n h (zI W) (zI E) (zI ab) 1 (zI i) (zI m) (zI (cnt (fun q => 0 < (wat A.1.1 q).2.2.2) s j)) (zI ls) (zI j)) P := by
  have hS := H.1.1.2
  unfold SML at hS
  have hG := H.1.1
  have hw := hG.1.1
  have r0 := N_run e hG (i := i) (w := 0) hi (by omega) (y := zI i) (z := 0) rfl (by decide)
  have r2 := N_run e hG (i := i) (w := 2) hi (by omega) (y := zI i) (z := 2) rfl (by decide)
  have r3 := N_run e hG (i := i) (w := 3) hi (by omega) (y := zI i) (z := 3) rfl (by decide)
  have v0 : rnV A.1 i 0 = cnt (fun q => 0 < (wat A.1.1 q).2.2.2) s m := by
    show cnt (fun j => 0 < (wat A.1.1 j).2.2.2) (sOf A.1 i).toNat (eOf A.1 i - sOf A.1 i).toNat = _
    rw [show (sOf A.1 i).toNat = s by omega, show (eOf A.1 i - sOf A.1 i).toNat = m by omega]
  have v2 : rnV A.1 i 2 = if m = 0 then -1 else (wat A.1.1 s).1 := by
    show (if eOf A.1 i - sOf A.1 i = 0 then (-1 : Int) else (wat A.1.1 (sOf A.1 i)).1) = _
    rw [hs]
    by_cases c : m = 0
    · rw [if_pos c, if_pos (by omega)]
    · rw [if_neg c, if_neg (by omega)]
  have v3 : m ≠ 0 → rnV A.1 i 3 = (wat A.1.1 (s + m - 1 : Nat)).1 := by
    intro c
    show (if eOf A.1 i - sOf A.1 i = 0 then (-1 : Int) else (wat A.1.1 (eOf A.1 i - 1)).1) = _
    rw [if_neg (by omega), show eOf A.1 i - 1 = ((s + m - 1 : Nat) : Int) by omega]
  rw [v0] at r0
  rw [v2] at r2
  intro r
  induction r with
  | zero =>
    intro n j ls hn2 hj h0 h1
    obtain ⟨n, rfl⟩ : ∃ k, n = k + 1 := ⟨n - 1, by omega⟩
    obtain rfl : j = m := by omega
    unfold b_L_areWritesSo_54 c_L_areWritesSo_54
    have hb := cnt_b (fun q => 0 < (wat A.1.1 q).2.2.2) s j
    refine wt ((zI_le (by omega)).mpr (by omega)) ?_
    refine wf (by decide) ?_
    refine wrr r0 ?_
    refine wt rfl ?_
    refine wrr (N_write e hG (i := i) (j := j) (w := 0) hi (by omega) (by omega) rfl rfl (by decide)) ?_
    rw [if_neg (show ¬ ((j : Nat) : Int) < eOf A.1 i - sOf A.1 i by omega)]
    refine wt (by decide) ?_
    unfold b_L_areWritesSo_290
    rw [zI_add, zI_add, show zI i + 1 = zI (i + 1) by rw [zl1, zI_add]]
    by_cases c : j = 0
    · rw [if_pos c] at hk r2
      refine wf (fun d => by rw [zl0] at d; have := (zI_lt (by omega)).mp d; omega) ?_
      refine wf (fun d => by rw [zl0] at d; have := (zI_le (by omega)).mp d; have := hn c; omega) ?_
      refine wrr r2 ?_
      refine wt (by decide) ?_
      exact wt (by rw [c]; rfl) hk
    · rw [if_neg c] at hk r2
      refine wt (by rw [zl0]; exact (zI_lt (by omega)).mpr (by omega)) ?_
      refine wf (fun d => by rw [zl0] at d; have := (zI_inj (by omega)).mp d; omega) ?_
      exact wrr r2 hk
  | succ r ih =>
    intro n j ls hn2 hj h0 h1
    obtain ⟨n, rfl⟩ : ∃ k, n = k + 1 := ⟨n - 1, by omega⟩
    unfold b_L_areWritesSo_54 c_L_areWritesSo_54
    refine wf (fun d => by have := (zI_le (by omega)).mp d; omega) ?_
    have hp : (j : Int) < eOf A.1 i - sOf A.1 i := by omega
    have hat : sOf A.1 i + (j : Int) = ((s + j : Nat) : Int) := by omega
    refine wrr (N_write e hG (i := i) (j := j) (w := 0) hi (by omega) (by omega) rfl rfl (by decide)) ?_
    refine wrr (N_write e hG (i := i) (j := j) (w := 1) hi (by omega) (by omega) rfl rfl (by decide)) ?_
    refine wrr (N_write e hG (i := i) (j := j) (w := 2) hi (by omega) (by omega) rfl rfl (by decide)) ?_
    refine wrr (N_write e hG (i := i) (j := j) (w := 3) hi (by omega) (by omega) rfl rfl (by decide)) ?_
    rw [if_pos hp, if_pos hp, if_pos hp, if_pos hp, hat]
    show WP (if zI (wat A.1.1 (s + j : Nat)).2.2.2 ≤ 0 then b_L_areWritesSo_117 x k18 (b_L_areWritesSo_54 x k18 n) h (zI W) (zI E) (zI ab) 1 (zI i) (zI m) (zI ls) (zI j) (zI (wat A.1.1 (s + j : Nat)).1) (zI (wat A.1.1 (s + j : Nat)).2.1) (zI (wat A.1.1 (s + j : Nat)).2.2.1) (zI (wat A.1.1 (s + j : Nat)).2.2.2) (zI (cnt (fun q => 0 < (wat A.1.1 q).2.2.2) s j)) 0 else b_L_areWritesSo_117 x k18 (b_L_areWritesSo_54 x k18 n) h (zI W) (zI E) (zI ab) 1 (zI i) (zI m) (zI ls) (zI j) (zI (wat A.1.1 (s + j : Nat)).1) (zI (wat A.1.1 (s + j : Nat)).2.1) (zI (wat A.1.1 (s + j : Nat)).2.2.1) (zI (wat A.1.1 (s + j : Nat)).2.2.2) (zI (cnt (fun q => 0 < (wat A.1.1 q).2.2.2) s j)) 1) P
    have hO := WOK_at hw (j := ((s + j : Nat) : Int)) (by omega)
    have hE2 := hG.1.2.2.1 _ (wat_mem (ws := A.1.1) (j := ((s + j : Nat) : Int)) (by omega))
    have hN := hG.1.2.2.2.1 _ (wat_mem (ws := A.1.1) (j := ((s + j : Nat) : Int)) (by omega))
    have hA := hab (s + j) (by omega)
    have hc : cnt (fun q => 0 < (wat A.1.1 q).2.2.2) s (j + 1) = cnt (fun q => 0 < (wat A.1.1 q).2.2.2) s j + (if 0 < (wat A.1.1 (s + j : Nat)).2.2.2 then 1 else 0) := by
      rw [cnt_split _ s j 1, cnt_succ]
      show _ + (_ + (0 : Int)) = _
      rw [Int.add_zero]
    unfold WOK at hO
    have hls : (0 ≤ ls ∧ ls < 200000000) ∧ ls < 100 * (wat A.1.1 (s + j : Nat)).1 + (wat A.1.1 (s + j : Nat)).2.1 := by
      by_cases c : j = 0
      · have := h0 c
        omega
      · have h2 := h1 (by omega)
        have hO2 := WOK_at hw (j := ((s + j - 1 : Nat) : Int)) (by omega)
        unfold WOK at hO2
        have h3 := hG.1.2.1 (s + j - 1) (s + j) (by omega) (by omega)
        omega
    have hi2 := ih n (j + 1) (100 * (wat A.1.1 (s + j : Nat)).1 + (wat A.1.1 (s + j : Nat)).2.2.1) (by omega) (by omega) (fun d => by omega) (fun _ => by rw [show s + (j + 1) - 1 = s + j by omega])
    rw [hc] at hi2
    have k100 : (100 * zI (wat A.1.1 (s + j : Nat)).1) + zI (wat A.1.1 (s + j : Nat)).2.2.1 = zI (100 * (wat A.1.1 (s + j : Nat)).1 + (wat A.1.1 (s + j : Nat)).2.2.1) := by
      rw [show (100 : Int32) = zI 100 by decide, zI_mul, zI_add]
    have kj : zI (j : Int) + 1 = zI ((j + 1 : Nat) : Int) := by rw [zl1, zI_add]; rfl
    have q5 : j = 0 → f_X7_run h x (zI i) 2 = some (.inl (zI (wat A.1.1 (s + j : Nat)).1)) := fun c => by
      rw [r2, if_neg (by omega), show s + j = s by omega]
    have q6 : j = m - 1 → f_X7_run h x (zI i) 3 = some (.inl (zI (wat A.1.1 (s + j : Nat)).1)) := fun c => by
      rw [r3, v3 (by omega), show s + m - 1 = s + j by omega]
    have hm48 : m < 100000 := by omega
    by_cases c : (wat A.1.1 (s + j : Nat)).2.2.2 ≤ 0
    · rw [if_neg (by omega)] at hi2
      refine wt (by rw [zl0]; exact (zI_le (by omega)).mpr c) ?_
      refine aws_117 hm48 (by omega) (by omega) hls.2 hA (by omega) (by omega) q5 q6 ?_
      rw [k100, kj, zl0, zI_add]
      exact hi2
    · rw [if_pos (by omega)] at hi2
      refine wf (fun d => by rw [zl0] at d; exact c ((zI_le (by omega)).mp d)) ?_
      refine aws_117 hm48 (by omega) (by omega) hls.2 hA (by omega) (Or.inr (hE2 (by omega))) q5 q6 ?_
      rw [k100, kj, show zI (cnt (fun q => 0 < (wat A.1.1 q).2.2.2) s j) + 1 = zI (cnt (fun q => 0 < (wat A.1.1 q).2.2.2) s j + 1) by rw [zl1, zI_add]]
      exact hi2
