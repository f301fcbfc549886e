/-! the law's turns -/
theorem lw_240 {L : Nat} {xs : Nat → Int32} {v0 bc bs x : Nat} {v2 : Int32} {k10 : HP → Nat → Nat → Nat → Int32 → Option Int32} {h : HP} {A : AB} {M : Int} {P : Int32 → Prop} (e : CLS h x A) (H : LOK A M) (hk : ∀ h', CLS h' x A → WP (k10 h' bc bs x (v2 + 1)) P) : WP (b_L_law_240 L xs v0 k10 h bc bs x v2) P := by
  have hG := H.1.1
  have hS := hG.2
  unfold SML at hS
  have h6 := few_seen hG.1
  have hc := cnt_b (fun k : Nat => vw A.1 k (-1) ≠ 0) 0 100
  have t6 : tld A.1 6 = cnt (fun k => vw A.1 k (-1) ≠ 0) 0 100 := rfl
  have hf : fewV A.1 ≤ 1000 := by
    by_cases c : eOf A.1 (-1) - sOf A.1 (-1) = 0 ∧ A.1.2.1.length < 2
    · rw [fewV_1 c]
      omega
    · rw [fewV_0 c]
      omega
  unfold b_L_law_240
  refine wpb (C_few e hG) ?_
  rintro ⟨r, h1⟩ ⟨q1, e1, -⟩
  dsimp only at q1 e1
  subst q1
  dsimp only
  refine wrt (N_about e1 hG (w := 6) (by omega) (by decide)) fun h2 e2 => ?_
  dsimp only
  exact wt ((zI_le (by omega)).mpr h6) (hk h2 e2)
theorem lw_225 {L : Nat} {xs : Nat → Int32} {v0 bc bs x : Nat} {v2 : Int32} {k10 : HP → Nat → Nat → Nat → Int32 → Option Int32} {h : HP} {A : AB} {M : Int} {P : Int32 → Prop} (e : CLS h x A) (H : LOK A M) (hM : M + 1 < 1000000) (hk : ∀ h' A', CLS h' x A' → LOK A' M → WP (k10 h' bc bs x (v2 + 1)) P) : WP (b_L_law_225 L xs v0 k10 h bc bs x v2) P := by
  unfold b_L_law_225
  by_cases c : jrem v2 5 = 3
  · refine wt c ?_
    refine wpb (ims_is e H hM) ?_
    rintro ⟨r, h1⟩ ⟨q1, A', e1, H1, -⟩
    dsimp only at q1 e1
    subst q1
    dsimp only
    exact wf (by decide) (lw_240 e1 H1 fun h' e' => hk h' A' e' H1)
  · exact wf c (lw_240 e H fun h' e' => hk h' A e' H)
theorem lw_202 {L : Nat} {xs : Nat → Int32} {v0 bc bs x : Nat} {v2 v3 : Int32} {k10 : HP → Nat → Nat → Nat → Int32 → Option Int32} {h : HP} {A : AB} {M : Int} {P : Int32 → Prop} (e : CLS h x A) (H : LOK A M) (hM : M + 1 < 1000000) (hk : ∀ h' A', CLS h' x A' → LOK A' M → WP (k10 h' bc bs x (v2 + 1)) P) : WP (b_L_law_202 L xs v0 k10 h bc bs x v2 v3) P := by
  unfold b_L_law_202
  by_cases c : jrem v2 4 = 2
  · refine wt c ?_
    obtain ⟨f, f1, f2, f3⟩ := low_is h (jishr v3 6) (n := 100) (by omega) (y := 100) (by decide)
    refine wb f1 ?_
    refine wpb (aks_is e H (f := f) (by omega)) ?_
    rintro ⟨r, h1⟩ ⟨q1, e1⟩
    dsimp only at q1 e1
    subst q1
    dsimp only
    exact wf (by decide) (lw_225 e1 H hM hk)
  · exact wf c (lw_225 e H hM hk)
theorem lw_181 {L : Nat} {xs : Nat → Int32} {v0 bc bs x : Nat} {v2 v3 : Int32} {k10 : HP → Nat → Nat → Nat → Int32 → Option Int32} {h : HP} {A : AB} {M : Int} {P : Int32 → Prop} (e : CLS h x A) (H : LOK A M) (hM : M + 1 < 1000000) (hk : ∀ h' A', CLS h' x A' → LOK A' M → WP (k10 h' bc bs x (v2 + 1)) P) : WP (b_L_law_181 L xs v0 k10 h bc bs x v2 v3 1) P := by
  unfold b_L_law_181
  refine wf (by decide) ?_
  by_cases c : jrem v2 2 = 1
  · refine wt c ?_
    refine wpb (aws_is e H) ?_
    rintro ⟨r, h1⟩ ⟨q1, e1⟩
    dsimp only at q1 e1
    subst q1
    dsimp only
    exact wf (by decide) (lw_202 e1 H hM hk)
  · exact wf c (lw_202 e H hM hk)
theorem lw_147 {L : Nat} {xs : Nat → Int32} {v0 bc bs x : Nat} {v2 v3 : Int32} {k10 : HP → Nat → Nat → Nat → Int32 → Option Int32} {h : HP} {A : AB} {M : Int} {P : Int32 → Prop} (e : CLS h x A) (H : LOK A M) (hM : M + 1 < 1000000) (hk : ∀ h' A', CLS h' x A' → LOK A' M → WP (k10 h' bc bs x (v2 + 1)) P) {v5 v6 : Int} {v13 : Int32} (hw : v13 ≠ 0 → (A.1.1.length : Int) = v5 + 1 ∧ A.1.2.2.2.1 = v6 + 1) : WP (b_L_law_147 L xs v0 k10 h bc bs x v2 v3 (zI v5) (zI v6) v13) P := by
  unfold b_L_law_147
  by_cases c : v13 = 0
  · exact wt c (lw_181 e H hM hk)
  · obtain ⟨w1, w2⟩ := hw c
    refine wf c ?_
    refine wrt (N_about e H.1.1 (w := 4) (by omega) (by decide)) fun h1 e1 => ?_
    dsimp only
    refine wt (by rw [zl1, zI_add]; exact congrArg zI w1) ?_
    refine wrt (N_about e1 H.1.1 (w := 0) (by omega) (by decide)) fun h2 e2 => ?_
    dsimp only
    exact wt (by rw [zl1, zI_add]; exact congrArg zI w2) (lw_181 e2 H hM hk)
theorem lw_117 {L : Nat} {xs : Nat → Int32} {v0 bc bs x : Nat} {v2 v3 : Int32} {k10 : HP → Nat → Nat → Nat → Int32 → Option Int32} {h : HP} {A : AB} {M : Int} {P : Int32 → Prop} (e : CLS h x A) (H : LOK A M) (hM : M + 1 < 1000000) (hk : ∀ h' A', CLS h' x A' → LOK A' M → WP (k10 h' bc bs x (v2 + 1)) P) {v5 v6 v7 : Int} {v4 v13 : Int32} {v10 : Int64} (hw : v13 ≠ 0 → (A.1.1.length : Int) = v5 + 1 ∧ A.1.2.2.2.1 = v6 + 1) (h7 : 0 ≤ v7 ∧ v7 ≤ 2) (ht : v4 ≠ 11 → v4 ≠ 12 → v7 ≠ 0 → 0 < A.1.2.2.1.length ∧ v10 = taleV A.1 0) : WP (b_L_law_117 L xs v0 k10 h bc bs x v2 v3 v4 (zI v5) (zI v6) (zI v7) v10 v13) P := by
  unfold b_L_law_117
  by_cases c1 : v4 = 11
  · exact wt c1 (lw_147 e H hM hk hw)
  refine wf c1 ?_
  by_cases c2 : v4 = 12
  · exact wt c2 (lw_147 e H hM hk hw)
  refine wf c2 ?_
  by_cases c3 : v7 = 0
  · exact wt (by rw [c3, zl0]) (lw_147 e H hM hk hw)
  refine wf (fun d => by rw [zl0] at d; exact c3 ((zI_inj (by omega)).mp d)) ?_
  obtain ⟨t1, t2⟩ := ht c1 c2 c3
  refine wb (tale_is e H.1.1 (i := 0) (by omega) (by decide)) ?_
  exact wt (by rw [t2]; exact cmp_same _) (lw_147 e H hM hk hw)
theorem lw_70 {L : Nat} {xs : Nat → Int32} {v0 bc bs x : Nat} {v2 v3 : Int32} {k10 : HP → Nat → Nat → Nat → Int32 → Option Int32} {h : HP} {A : AB} {M : Int} {P : Int32 → Prop} (e : CLS h x A) (H : LOK A M) (hM : M + 2 < 1000000) (hk : ∀ h' A', CLS h' x A' → LOK A' (M + 1) → WP (k10 h' bc bs x (v2 + 1)) P) {s0 : Int64} (hs : 0 < A.1.2.2.1.length → s0 = taleV A.1 0) : WP (b_L_law_70 L xs v0 k10 h bc bs x v2 v3 (v3 &&& 15) (zI A.1.1.length) (zI A.1.2.2.2.1) (zI A.1.2.2.1.length) (taleV A.1 (-1)) s0) P := by
  have hS := H.1.1.2
  unfold SML at hS
  have hL := H.1.1.1.2.2.2.2.2.1
  unfold b_L_law_70
  refine wpb (does_is e H (by omega) v3) ?_
  rintro ⟨r, h1⟩ ⟨A', e1, H1, ⟨z, z1, z2, z3⟩, hc⟩
  dsimp only at e1 z1
  subst z1
  dsimp only
  have hL1 := H1.1.1.1.2.2.2.2.2.1
  refine wrt (N_about e1 H1.1.1 (w := 0) (by omega) (by decide)) fun h2 e2 => ?_
  dsimp only
  rw [show tld A'.1 0 = A'.1.2.2.2.1 from rfl]
  unfold b_L_law_94
  have hz : ¬ zI z < 0 := fun d => by rw [zl0, zI_lt (by omega)] at d; omega
  rcases hc with ⟨w1, w2, w3, w4⟩ | ⟨l1, l2, l3⟩
  · refine wf (fun d => by rw [zI_le (by omega)] at d; omega) ?_
    refine wf hz ?_
    refine wf (by decide) ?_
    refine lw_117 e2 H1 (by omega) hk (fun _ => by omega) (by omega) (fun _ _ c => ?_)
    have hY : 0 < A.1.2.2.1.length := by omega
    refine ⟨by rw [w3]; exact hY, ?_⟩
    rw [hs hY]
    exact (tl_c _ _ _ fun k _ _ => by
      show gvV A'.1 k 0 = gvV A.1 k 0
      unfold gvV
      rw [w4 k 0 (by omega) (by omega)]).symm
  · refine wt ((zI_le (by omega)).mpr (by omega)) ?_
    refine wf hz ?_
    refine wt rfl ?_
    refine wb (tale_is e2 H1.1.1 (i := -1) (by omega) (by decide)) ?_
    have ht : taleV A'.1 (-1) = taleV A.1 (-1) := taleV_c l2
    refine wt (by rw [ht]; exact cmp_same _) ?_
    refine lw_117 e2 H1 (by omega) hk (fun d => absurd rfl d) (by omega) (fun c1 c2 c => ?_)
    have hY : 0 < A.1.2.2.1.length := by omega
    rcases l3 with d | d | ⟨d1, d2⟩
    · exact absurd d c1
    · exact absurd d c2
    · refine ⟨by rw [d1]; exact hY, ?_⟩
      rw [hs hY]
      exact (taleV_c fun k => d2 k 0).symm
theorem lw_loop {L : Nat} {xs : Nat → Int32} {v0 : Nat} (hL : L ≤ 260) {x : Nat} : ∀ (r n : Nat) (h : HP) (bc bs i : Nat) (A : AB), r < n → i + r = 60 → CLS h x A → LOK A i → WP (b_L_law_10 L xs v0 n h bc bs x (zI i)) (fun r => r = 1) := by
  intro r
  induction r with
  | zero =>
    intro n h bc bs i A hn hi e H
    obtain ⟨n, rfl⟩ : ∃ k, n = k + 1 := ⟨n - 1, by omega⟩
    unfold b_L_law_10 c_L_law_10
    exact wt (by rw [show (60 : Int32) = zI 60 by decide]; exact (zI_le (by omega)).mpr (by omega)) (wr rfl)
  | succ r ih =>
    intro n h bc bs i A hn hi e H
    obtain ⟨n, rfl⟩ : ∃ k, n = k + 1 := ⟨n - 1, by omega⟩
    have hG := H.1.1
    have hS := hG.2
    unfold SML at hS
    unfold b_L_law_10 c_L_law_10
    refine wf (fun d => by rw [show (60 : Int32) = zI 60 by decide, zI_le (by omega)] at d; omega) ?_
    obtain ⟨v, hv⟩ := cell_is h L xs v0 hL (k := i) (by omega)
    refine wb hv ?_
    refine wrt (N_about e hG (w := 4) (by omega) (by decide)) fun h1 e1 => ?_
    dsimp only
    refine wrt (N_about e1 hG (w := 0) (by omega) (by decide)) fun h2 e2 => ?_
    dsimp only
    refine wrt (N_about e2 hG (w := 3) (by omega) (by decide)) fun h3 e3 => ?_
    dsimp only
    rw [show tld A.1 4 = (A.1.1.length : Int) from rfl, show tld A.1 0 = A.1.2.2.2.1 from rfl, show tld A.1 3 = (A.1.2.2.1.length : Int) from rfl]
    refine wb (tale_is e3 hG (i := -1) (by omega) (by decide)) ?_
    have hk : ∀ h' A', CLS h' x A' → LOK A' ((i : Int) + 1) → WP (b_L_law_10 L xs v0 n h' bc bs x (zI i + 1)) (fun r => r = 1) := by
      intro h' A' e' H'
      rw [show zI (i : Int) + 1 = zI ((i + 1 : Nat) : Int) by rw [zl1, zI_add]; rfl]
      exact ih n h' bc bs (i + 1) A' (by omega) (by omega) e' H'
    by_cases c : (A.1.2.2.1.length : Int) ≤ 0
    · exact wt (by rw [zl0]; exact (zI_le (by omega)).mpr c) (lw_70 e3 H (by omega) hk (fun d => by omega))
    · refine wf (fun d => by rw [zl0] at d; exact c ((zI_le (by omega)).mp d)) ?_
      refine wb (tale_is e3 hG (i := 0) (by omega) (by decide)) ?_
      exact lw_70 e3 H (by omega) hk (fun _ => rfl)
theorem law_holds (q0 L : Nat) (xs : Nat → Int32) (b : Nat) (hL : L ≤ 260) : b_L_law_0 q0 L xs b (fun _ => none) 600130 7301080 = some 1 := by
  have main : WP (b_L_law_0 q0 L xs b (fun _ => none) 600130 7301080) (fun r => r = 1) := by
    unfold b_L_law_0
    refine wb (tk_is (by omega)) ?_
    refine wb (tk_is (by omega)) ?_
    refine newO fun h1 e1 k1 => ?_
    refine wb (tk_is (by omega)) ?_
    refine wb (tk_is (by omega)) ?_
    refine wpb (X7_init_is e1) ?_
    rintro ⟨h2, y⟩ ⟨q1, q2, q3⟩
    dsimp only at q1 q2 q3 ⊢
    have hA : LOK (emp, [], (none, none), []) ((0 : Nat) : Int) := ⟨⟨emp_ok, fun T hT => absurd hT List.not_mem_nil, fun T hT => absurd hT (by simp), fun T hT => absurd hT (by simp)⟩, QOK_emp, by decide⟩
    exact lw_loop hL 60 FU h2 _ _ 0 _ (by decide) rfl q2 hA
  obtain ⟨r, e, rfl⟩ := main
  exact e
