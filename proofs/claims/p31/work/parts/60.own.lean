/-! the law's look at the keys -/
theorem vw_rn2 {S : SG} {M : Int} (H : SOK S M) (k x : Int) : 0 ≤ vw S k x ∧ vw S k x < 1000 := wat_v H.1 _
theorem gv_rng {S : SG} {M : Int} (H : SOK S M) (k x : Int) : (vw S k x = 0 → gvV S k x = -1) ∧ (vw S k x ≠ 0 → gvV S k x = vw S k x ∧ 0 < vw S k x) := by
  have := vw_rn2 H k x
  unfold gvV
  constructor
  · intro c
    rw [if_pos c]
  · intro c
    rw [if_neg c]
    omega
theorem aks_168 {h : HP} {x : Nat} {A : AB} (e : CLS h x A) {M : Int} (H : LOK A M) {f : Int} (hf : 0 ≤ f ∧ f < 100) : WP (b_L_areKeysSo_168 x (zI f) h (zI (fst1 (fun q => vw A.1 q (-1) ≠ 0) f.toNat (100 - f.toNat))) 1) (YES x A) := by
  have hG := H.1.1
  unfold b_L_areKeysSo_168
  refine wf (by decide) ?_
  rcases fst1_is (fun q : Nat => vw A.1 q (-1) ≠ 0) (100 - f.toNat) f.toNat with ⟨h1, h2⟩ | ⟨t, t1, t2, t3, t4, t5⟩
  · rw [h1]
    refine wf (by decide) ?_
    refine wrt (N_count e hG (p := f) (q := 99) (by omega) rfl (by decide) (by decide)) fun h' e' => ?_
    dsimp only
    rw [show (99 + 1 - f).toNat = 100 - f.toNat by omega, h2]
    exact wt (by decide) (wr ⟨rfl, e'⟩)
  · rw [t3]
    have hv := (gv_rng hG.1 t (-1)).2 t4
    have hr := vw_rn2 hG.1 t (-1)
    refine wt (by rw [zl0]; exact (zI_le (by omega)).mpr (by omega)) ?_
    refine wf (fun d => by have := (zI_lt (by omega)).mp d; omega) ?_
    refine wrr (N_get e hG (k := t) (i := -1) (by omega) (by omega) rfl (by decide)) ?_
    refine wf (fun d => by rw [zl0, zI_le (by omega)] at d; omega) ?_
    by_cases c : (t : Int) = f
    · exact wt (congrArg zI c) (wr ⟨rfl, e⟩)
    · refine wf (fun d => c ((zI_inj (by omega)).mp d)) ?_
      refine wrt (N_count e hG (p := f) (q := t - 1) (by omega) rfl (by rw [zl1, zI_sub]) (by decide)) fun h' e' => ?_
      dsimp only
      rw [show ((t : Int) - 1 + 1 - f).toNat = t - f.toNat by omega, t5]
      exact wt (by decide) (wr ⟨rfl, e'⟩)
theorem aks_51 {h : HP} {x : Nat} {A : AB} (e : CLS h x A) {M : Int} (H : LOK A M) {f : Int32} {k10 : HP → Int32 → Int32 → Int32 → Int32 → Option (Int32 × HP)} {P : Int32 × HP → Prop} {v2 s0 s1 : Int32} {j : Nat} (hj : j < 100) {g : Int} (hg : g ≠ 0 ∧ -2 < g ∧ g < 1000) (hk : ∀ h', CLS h' x A → WP (k10 h' v2 (s0 + s1) 1 (zI ((j + 1 : Nat) : Int))) P) : WP (b_L_areKeysSo_51 x f k10 h v2 1 (zI j) (zI g) s0 s1) P := by
  have hG := H.1.1
  have hS := hG.2
  unfold SML at hS
  unfold b_L_areKeysSo_51
  refine wf (by decide) ?_
  refine wrr (N_looks e hG (k := j) (by omega) rfl) ?_
  refine wrt (N_about e hG (w := 2) (by omega) (by decide)) fun h1 e1 => ?_
  dsimp only
  rw [show tld A.1 2 = A.1.2.1.length from rfl, zl1, zI_add]
  have hle := lk_le A.1 j (A.1.2.1.length + 1) (-1) 0
  have h2 : ∀ (n : Nat) (i acc : Int), acc ≤ lk A.1 j i acc n := by
    intro n
    induction n with
    | zero => exact fun i acc => Int.le_refl _
    | succ n ih =>
      intro i acc
      rw [lk_succ]
      have h3 : (0 : Int) ≤ (if 0 < eOf A.1 i - sOf A.1 i then 1 else 0) := by split <;> omega
      split
      · omega
      · have := ih (i + 1) (acc + (if 0 < eOf A.1 i - sOf A.1 i then 1 else 0))
        omega
  have h4 := h2 (A.1.2.1.length + 1) (-1) 0
  refine wf (fun d => by rw [zI_lt (by omega)] at d; omega) ?_
  refine wf (fun d => by rw [zl0] at d; exact hg.1 ((zI_inj (by omega)).mp d)) ?_
  have h5 := hk h1 e1
  rw [zl1] at h5
  rw [zI_add]
  exact h5
theorem aks_loop {x : Nat} {A : AB} {M : Int} (H : LOK A M) {f : Int} (hf : 0 ≤ f ∧ f < 100) : ∀ (r n : Nat) (h : HP) (j : Nat) (a b : Int), r < n → j + r = 100 → CLS h x A → a + smf (fun k => vw A.1 k (-1)) j r = tld A.1 7 → b + cnt (fun k => vw A.1 k (-1) ≠ 0) j r = tld A.1 6 → WP (b_L_areKeysSo_10 x (zI f) n h (zI a) (zI b) 1 (zI j)) (YES x A) := by
  have hG := H.1.1
  intro r
  induction r with
  | zero =>
    intro n h j a b hn hj e ha hb
    obtain ⟨n, rfl⟩ : ∃ k, n = k + 1 := ⟨n - 1, by omega⟩
    have ha2 : a + 0 = tld A.1 7 := ha
    have hb2 : b + 0 = tld A.1 6 := hb
    obtain rfl : a = tld A.1 7 := by omega
    obtain rfl : b = tld A.1 6 := by omega
    have hs := seen_hid hG.1
    have h5 := cnt_b (fun i : Nat => 0 < (wat A.1.1 i).2.2.2) 0 A.1.1.length
    have h6 := cnt_b (fun k : Nat => vw A.1 k (-1) ≠ 0) 0 100
    have t5 : tld A.1 5 = cnt (fun i => 0 < (wat A.1.1 i).2.2.2) 0 A.1.1.length := rfl
    have t6 : tld A.1 6 = cnt (fun k => vw A.1 k (-1) ≠ 0) 0 100 := rfl
    have hS := hG.2
    unfold SML at hS
    unfold b_L_areKeysSo_10 c_L_areKeysSo_10
    refine wt (by rw [show (100 : Int32) = zI 100 by decide]; exact (zI_le (by omega)).mpr (by omega)) ?_
    refine wrt (N_next e hG (k := f) (by omega) rfl (by decide)) fun h1 e1 => ?_
    dsimp only
    refine wf (by decide) ?_
    refine wrt (N_about e1 hG (w := 6) (by omega) (by decide)) fun h2 e2 => ?_
    dsimp only
    refine wt rfl ?_
    refine wrt (N_about e2 hG (w := 7) (by omega) (by decide)) fun h3 e3 => ?_
    dsimp only
    refine wt rfl ?_
    refine wrt (N_count e3 hG (p := 0) (q := 99) (by omega) (by decide) (by decide) (by decide)) fun h4 e4 => ?_
    dsimp only
    refine wt rfl ?_
    refine wb (C_hidden e4 hG) ?_
    refine wrt (N_about e4 hG (w := 5) (by omega) (by decide)) fun h5 e5 => ?_
    dsimp only
    refine wf (fun d => by rw [zI_lt (by omega)] at d; omega) ?_
    refine wrt (N_about e5 hG (w := 5) (by omega) (by decide)) fun h6 e6 => ?_
    dsimp only
    refine wb (C_hidden e6 hG) ?_
    refine wf (fun d => by rw [zI_sub, zI_lt (by omega)] at d; omega) ?_
    exact aks_168 e6 H hf
  | succ r ih =>
    intro n h j a b hn hj e ha hb
    obtain ⟨n, rfl⟩ : ∃ k, n = k + 1 := ⟨n - 1, by omega⟩
    have hg := gv_rng hG.1 j (-1)
    have hr := vw_rn2 hG.1 j (-1)
    rw [smf_succ] at ha
    rw [cnt_succ] at hb
    unfold b_L_areKeysSo_10 c_L_areKeysSo_10
    refine wf (fun d => by rw [show (100 : Int32) = zI 100 by decide, zI_le (by omega)] at d; omega) ?_
    refine wrr (N_get e hG (k := j) (i := -1) (by omega) (by omega) rfl (by decide)) ?_
    unfold b_L_areKeysSo_38
    by_cases c : vw A.1 j (-1) = 0
    · have h1 := hg.1 c
      rw [if_neg (fun d => d c)] at hb
      rw [h1]
      refine wf (by decide) ?_
      refine wf (by decide) ?_
      refine aks_51 e H (by omega) (by omega) fun h' e' => ?_
      have h2 := ih n h' (j + 1) a b (by omega) (by omega) e' (by omega) (by omega)
      rw [zl0, zI_add, zI_add, Int.add_zero, Int.add_zero]
      exact h2
    · obtain ⟨h1, h0⟩ := hg.2 c
      rw [if_pos c] at hb
      rw [h1]
      have hz : (0 : Int32) ≤ zI (vw A.1 j (-1)) := by rw [zl0]; exact (zI_le (by omega)).mpr (by omega)
      refine wt hz ?_
      refine wt hz ?_
      refine aks_51 e H (by omega) (by omega) fun h' e' => ?_
      have h2 := ih n h' (j + 1) (a + vw A.1 j (-1)) (b + 1) (by omega) (by omega) e' (by omega) (by omega)
      rw [show zI b + 1 = zI (b + 1) by rw [zl1, zI_add], zI_add]
      exact h2
theorem aks_is {h : HP} {x : Nat} {A : AB} (e : CLS h x A) {M : Int} (H : LOK A M) {f : Int} (hf : 0 ≤ f ∧ f < 100) : WP (f_L_areKeysSo h x (zI f)) (YES x A) := by
  unfold f_L_areKeysSo b_L_areKeysSo_0
  have t7 : tld A.1 7 = smf (fun k => vw A.1 k (-1)) 0 100 := rfl
  have t6 : tld A.1 6 = cnt (fun k => vw A.1 k (-1) ≠ 0) 0 100 := rfl
  exact aks_loop H hf 100 FU h 0 0 0 (by decide) rfl e (by omega) (by omega)
