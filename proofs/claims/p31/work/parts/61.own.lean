/-! the law's look at a merge, which is undone -/
def YEM (x : Nat) (A : AB) (M : Int) (r : Int32 × HP) : Prop := r.1 = 1 ∧ ∃ A', CLS r.2 x A' ∧ LOK A' M ∧ A'.1 = A.1
theorem ims_35 {h : HP} {x : Nat} {A : AB} (e : CLS h x A) {M : Int} (H : LOK A M) {i : Int} (hi : -1 ≤ i ∧ (i = -1 ∨ i < A.1.2.1.length)) : WP (b_L_isMergeSo_35 x h (zI i)) (YEM x A M) := by
  have hS := H.1.1.2
  unfold SML at hS
  unfold b_L_isMergeSo_35
  refine wrt (N_about e H.1.1 (w := 2) (by omega) (by decide)) fun h1 e1 => ?_
  dsimp only
  rw [show tld A.1 2 = A.1.2.1.length from rfl]
  exact wf (fun d => by rw [zI_le (by omega)] at d; omega) (wr ⟨rfl, A, e1, H, rfl⟩)
theorem ims_156 {h : HP} {x : Nat} {A : AB} {M : Int} (H : LOK A M) (hM : M + 1 < 1000000) {i : Int} (hF : mgF A.1 i = 0) (e : CLS h x (mgS A.1 i, push A.2.1 A.1, A.2.2)) : WP (b_L_isMergeSo_156 x h (zI A.1.1.length) 1) (YEM x A M) := by
  have H1 := L_merge H hM hF
  obtain ⟨p1, p2⟩ := push_last A.2.1 A.1
  unfold b_L_isMergeSo_156
  refine wrt (N_undo e H1.1 p1) fun h1 e1 => ?_
  dsimp only at e1 ⊢
  rw [p2] at e1
  have hpl : (push A.2.1 A.1).length ≤ 15 + A.2.1.length := by
    unfold push
    split <;> rw [List.length_append] <;> first | rw [List.length_tail] | skip
    · show _ + 1 ≤ _
      omega
    · show _ + 1 ≤ _
      omega
  have hL : LOK (A.1, (push A.2.1 A.1).dropLast, A.2.2) M := L_undo H ⟨rfl, fun U hU => by
    rcases push_mem ((List.dropLast_sublist _).subset hU) with hU | rfl
    · exact H.1.2.1 U hU
    · exact H.1.1, rfl⟩
  have hh : A.2.1.length ≤ 14 := by
    obtain ⟨o, G, -, -, -, -, h14, -⟩ := e1.2.2.2.2.2.1
    have h15 : (push A.2.1 A.1).dropLast.length ≤ 14 := h14
    rw [List.length_dropLast] at h15
    unfold push at h15
    split at h15 <;> rw [List.length_append] at h15
    · omega
    · have : [A.1].length = 1 := rfl
      omega
  refine wf (by decide) ?_
  refine wf (fun d => by rw [zl0, zI_lt (by omega)] at d; omega) ?_
  refine wrt (N_about e1 hL.1.1 (w := 4) (by omega) (by decide)) fun h2 e2 => ?_
  dsimp only
  exact wt rfl (wr ⟨rfl, _, e2, hL, rfl⟩)
theorem ims_81 {h : HP} {x : Nat} {A : AB} (e : CLS h x A) {M : Int} (H : LOK A M) (hM : M + 1 < 1000000) {i : Int} (hF : mgF A.1 i = 0) {s0 : Int64} (hs : 0 < A.1.2.2.1.length → s0 = taleV A.1 0) : WP (b_L_isMergeSo_81 x h (zI i) (zI A.1.1.length) (zI A.1.2.2.2.2) (zI (mgV A.1 i)) (taleV A.1 (-1)) s0) (YEM x A M) := by
  have H1 := L_merge H hM hF
  have hi := mgF_0 hF
  have hl := sOf_mgS H.1.1.1 hi.1
  have hS := H.1.1.2
  unfold SML at hS
  obtain ⟨m1, m2, m3, m4, -⟩ := mg_pre H.1.1.1.2.2.2.2.2.2 hi.1
  unfold b_L_isMergeSo_81
  refine wrt (N_merge e H.1.1 hF rfl) fun h1 e1 => ?_
  dsimp only
  refine wrt (N_about e1 H1.1.1 (w := 4) (by omega) (by decide)) fun h2 e2 => ?_
  dsimp only
  refine wt (by rw [zI_sub]; exact congrArg zI hl.2) ?_
  refine wrt (N_about e2 H1.1.1 (w := 8) (by omega) (by decide)) fun h3 e3 => ?_
  dsimp only
  refine wt (by rw [zI_add]; rfl) ?_
  refine wb (tale_is e3 H1.1.1 (i := -1) (by omega) (by decide)) ?_
  have hv : ∀ q : Int, taleV (mgS A.1 i) q = taleV A.1 q := fun q => taleV_c fun k => vw_mgS H.1.1.1 hi.1 k q
  dsimp only
  refine wt (by rw [hv]; exact cmp_same _) ?_
  refine wrt (N_about e3 H1.1.1 (w := 3) (by omega) (by decide)) fun h4 e4 => ?_
  dsimp only
  have h146 : ∀ h' : HP, CLS h' x (mgS A.1 i, push A.2.1 A.1, A.2.2) → WP (b_L_isMergeSo_146 x h' (zI A.1.1.length) (zI (mgK A.1 i).length)) (YEM x A M) := by
    intro h' e'
    unfold b_L_isMergeSo_146
    refine wf (fun d => by rw [zl0, zI_lt (by omega)] at d; omega) ?_
    exact ims_156 H hM hF e'
  have hY : (mgS A.1 i).2.2.1 = A.1.2.2.1 := rfl
  by_cases c : A.1.2.2.1.length = 0
  · exact wt (by rw [zl0]; exact congrArg zI (by show (((mgS A.1 i).2.2.1.length : Nat) : Int) = 0; rw [hY]; omega)) (h146 h4 e4)
  · refine wf (fun d => by
      rw [zl0, show tld (mgS A.1 i) 3 = (A.1.2.2.1.length : Int) from rfl, zI_inj (by omega)] at d
      omega) ?_
    refine wb (tale_is e4 H1.1.1 (i := 0) (by show (-1 : Int) ≤ 0 ∧ (0 : Int) < ((mgS A.1 i).2.2.1.length : Nat); rw [hY]; omega) (by decide)) ?_
    refine wt (by rw [hs (by omega)]; dsimp only; rw [hv]; exact cmp_same _) (h146 h4 e4)
theorem ims_is {h : HP} {x : Nat} {A : AB} (e : CLS h x A) {M : Int} (H : LOK A M) (hM : M + 1 < 1000000) : WP (f_L_isMergeSo h x 0) (YEM x A M) := by
  have hG := H.1.1
  have hS := hG.2
  unfold SML at hS
  unfold f_L_isMergeSo b_L_isMergeSo_0
  refine wpb (C_best e hG) ?_
  rintro ⟨r, h1⟩ ⟨q1, e1, -⟩
  dsimp only at q1 e1
  subst q1
  dsimp only
  refine wrt (N_about e1 hG (w := 4) (by omega) (by decide)) fun h2 e2 => ?_
  dsimp only
  refine wrt (N_about e2 hG (w := 8) (by omega) (by decide)) fun h3 e3 => ?_
  dsimp only
  rcases bst_ok A.1 A.1.2.1.length 0 (-1) 0 (Or.inl rfl) with hb | hb
  · rw [hb]
    exact wt (by decide) (ims_35 e3 H (by omega))
  · have hi := mgF_0 hb
    refine wf (fun d => by
      rw [show (-1 : Int32) = zI (-1) by decide, zI_inj (by omega)] at d
      omega) ?_
    refine wrt (N_about e3 hG (w := 2) (by omega) (by decide)) fun h4 e4 => ?_
    dsimp only
    rw [show tld A.1 2 = A.1.2.1.length from rfl, show (0 : Int32) + 1 = zI 1 by decide]
    by_cases c : (1 : Int) < A.1.2.1.length
    · refine wt ((zI_lt (by omega)).mpr c) ?_
      refine wrt (N_saves e4 hG hb rfl) fun h5 e5 => ?_
      dsimp only
      refine wb (tale_is e5 hG (i := -1) (by omega) (by decide)) ?_
      refine wrt (N_about e5 hG (w := 3) (by omega) (by decide)) fun h6 e6 => ?_
      dsimp only
      rw [show tld A.1 3 = A.1.2.2.1.length from rfl]
      by_cases d : (A.1.2.2.1.length : Int) ≤ 0
      · refine wt (by rw [zl0]; exact (zI_le (by omega)).mpr d) ?_
        exact ims_81 e6 H hM hb (fun z => by omega)
      · refine wf (fun z => by rw [zl0] at z; exact d ((zI_le (by omega)).mp z)) ?_
        refine wb (tale_is e6 hG (i := 0) (by omega) (by decide)) ?_
        exact ims_81 e6 H hM hb (fun _ => rfl)
    · exact wf (fun d => c ((zI_lt (by omega)).mp d)) (ims_35 e4 H (by omega))
