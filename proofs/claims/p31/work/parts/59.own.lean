/-! the law's look at the writes: all places -/
def YES (x : Nat) (A : AB) (r : Int32 × HP) : Prop := r.1 = 1 ∧ CLS r.2 x A
theorem aws_out {x : Nat} {A : AB} {M : Int} (H : LOK A M) : ∀ (r n : Nat) (h : HP) (i ab : Int) (p : Nat), r < n → i + r = A.1.2.1.length → -1 ≤ i → CLS h x A → (i < A.1.2.1.length → eOf A.1 i = p) → (i = A.1.2.1.length → p = 0) → p ≤ A.1.1.length → (∀ j : Nat, j < p → (wat A.1.1 j).1 < ab) → (0 ≤ ab ∧ ab < 2000000) → WP (b_L_areWritesSo_18 x n h (zI ((A.1.1.length : Int) - p)) (zI (cnt (fun q => 0 < (wat A.1.1 q).2.2.2) p (A.1.1.length - p))) (zI ab) 1 (zI i)) (YES x A) := by
  have hS := H.1.1.2
  unfold SML at hS
  have hG := H.1.1
  have hE := hG.1.2.2.2.2.2.2
  intro r
  induction r with
  | zero =>
    intro n h i ab p hn hi hi0 e hp1 hp2 hpl hab hr
    obtain ⟨n, rfl⟩ : ∃ k, n = k + 1 := ⟨n - 1, by omega⟩
    obtain rfl : p = 0 := hp2 (by omega)
    have hm := plc hE (i := -1) (by omega)
    unfold b_L_areWritesSo_18 c_L_areWritesSo_18
    refine wrt (N_about e hG (w := 2) (by omega) (by decide)) fun h1 e1 => ?_
    dsimp only
    refine wt (by rw [show tld A.1 2 = A.1.2.1.length from rfl]; exact (zI_le (by omega)).mpr (by omega)) ?_
    refine wf (by decide) ?_
    refine wrt (N_about e1 hG (w := 4) (by omega) (by decide)) fun h2 e2 => ?_
    dsimp only
    refine wt (by rw [show tld A.1 4 = A.1.1.length from rfl]; exact congrArg zI (by omega)) ?_
    refine wrt (N_about e2 hG (w := 5) (by omega) (by decide)) fun h3 e3 => ?_
    dsimp only
    refine wt (by rw [Nat.sub_zero]; rfl) ?_
    refine wf (fun d => by rw [show (48 : Int32) = zI 48 by decide] at d; have := (zI_lt (by omega)).mp d; omega) ?_
    refine wrt (N_about e3 hG (w := 1) (by omega) (by decide)) fun h4 e4 => ?_
    dsimp only
    refine wrr (N_run e4 hG (i := -1) (w := 0) (by omega) (by omega) (by decide) (by decide)) ?_
    refine wrr (N_run e4 hG (i := -1) (w := 1) (by omega) (by omega) (by decide) (by decide)) ?_
    refine wt (by
      rw [zI_add]
      refine congrArg zI ?_
      show eOf A.1 (-1) - sOf A.1 (-1) = cnt (fun j => 0 < (wat A.1.1 j).2.2.2) (sOf A.1 (-1)).toNat (eOf A.1 (-1) - sOf A.1 (-1)).toNat + (eOf A.1 (-1) - sOf A.1 (-1) - cnt (fun j => 0 < (wat A.1.1 j).2.2.2) (sOf A.1 (-1)).toNat (eOf A.1 (-1) - sOf A.1 (-1)).toNat)
      omega) ?_
    refine wrt (N_about e4 hG (w := 2) (by omega) (by decide)) fun h5 e5 => ?_
    dsimp only
    refine wf (fun d => by
      rw [show tld A.1 2 = A.1.2.1.length from rfl, show (5 : Int32) = zI 5 by decide] at d
      have := (zI_lt (by omega)).mp d
      omega) ?_
    exact wr ⟨rfl, e5⟩
  | succ r ih =>
    intro n h i ab p hn hi hi0 e hp1 hp2 hpl hab hr
    obtain ⟨n, rfl⟩ : ∃ k, n = k + 1 := ⟨n - 1, by omega⟩
    have hi1 : -1 ≤ i ∧ i < A.1.2.1.length := by omega
    have hm := plc hE hi1
    have hep := hp1 (by omega)
    unfold b_L_areWritesSo_18 c_L_areWritesSo_18
    refine wrt (N_about e hG (w := 2) (by omega) (by decide)) fun h1 e1 => ?_
    dsimp only
    refine wf (fun d => by
      rw [show tld A.1 2 = A.1.2.1.length from rfl] at d
      have := (zI_le (by omega)).mp d
      omega) ?_
    refine wrr (N_run e1 hG (i := i) (w := 0) hi1 (by omega) rfl (by decide)) ?_
    refine wrr (N_run e1 hG (i := i) (w := 1) hi1 (by omega) rfl (by decide)) ?_
    obtain ⟨s, hs⟩ : ∃ s : Nat, sOf A.1 i = s := ⟨(sOf A.1 i).toNat, by omega⟩
    obtain ⟨m, hm2⟩ : ∃ m : Nat, eOf A.1 i = (s + m : Nat) := ⟨(eOf A.1 i).toNat - s, by omega⟩
    have hsum : rnV A.1 i 0 + rnV A.1 i 1 = (m : Int) := by
      show cnt (fun j => 0 < (wat A.1.1 j).2.2.2) (sOf A.1 i).toNat (eOf A.1 i - sOf A.1 i).toNat + (eOf A.1 i - sOf A.1 i - cnt (fun j => 0 < (wat A.1.1 j).2.2.2) (sOf A.1 i).toNat (eOf A.1 i - sOf A.1 i).toNat) = _
      omega
    rw [zI_add, hsum]
    have hc : cnt (fun q => 0 < (wat A.1.1 q).2.2.2) p (A.1.1.length - p) + cnt (fun q => 0 < (wat A.1.1 q).2.2.2) s m = cnt (fun q => 0 < (wat A.1.1 q).2.2.2) s (A.1.1.length - s) := by
      rw [show A.1.1.length - s = m + (A.1.1.length - p) by omega, cnt_split _ s m, show s + m = p by omega]
      omega
    have hN : ∀ j : Nat, j < A.1.1.length → 1 ≤ (wat A.1.1 j).1 ∧ (wat A.1.1 j).1 < 1000000 := fun j hj => by
      have h3 := hG.1.2.2.2.1 _ (wat_mem (ws := A.1.1) (j := (j : Int)) (by omega))
      have h4 := hG.1.2.2.2.2.2.1
      omega
    have hnext := ih n h1 (i + 1) (if m = 0 then ab else (wat A.1.1 s).1) s (by omega) (by omega) (by omega) e1 (fun c => by rw [plc2 A.1 (i := i) (by omega)]; exact hs) (fun c => by
      have : sOf A.1 i = 0 := by
        unfold sOf
        exact iat_out (by omega)
      omega) (by omega) (fun j hj => by
      by_cases c : m = 0
      · rw [if_pos c]
        exact hab j (by omega)
      · rw [if_neg c]
        have hx : 0 ≤ (A.1.2.1.length : Int) - 2 - i := by
          by_cases d : 0 ≤ (A.1.2.1.length : Int) - 2 - i
          · exact d
          · have : sOf A.1 i = 0 := by
              unfold sOf
              exact iat_out (by omega)
            omega
        have hq := H.2.1.1 ((A.1.2.1.length : Int) - 2 - i).toNat (by omega)
        rw [show ((((A.1.2.1.length : Int) - 2 - i).toNat : Nat) : Int) = (A.1.2.1.length : Int) - 2 - i by omega] at hq
        have hq2 : iat A.1.2.1 ((A.1.2.1.length : Int) - 2 - i) = s := hs
        exact hq j s (by omega) (by omega) (by omega)) (by
      by_cases c : m = 0
      · rw [if_pos c]
        exact hr
      · rw [if_neg c]
        have := hN s (by omega)
        omega)
    refine aws_in e1 H hi1 hs hm2 (by omega) (fun c => by
      by_cases d : 0 ≤ i
      · have := hm.2.2.2 d
        omega
      · omega) (fun j hj => hab j (by omega)) hr ?_ m FU 0 0 (by show m < 4096; omega) (by omega) (fun _ => rfl) (fun d => absurd d (Nat.lt_irrefl _))
    rw [hc, show (A.1.1.length : Int) - p + m = (A.1.1.length : Int) - s by omega]
    exact hnext
theorem aws_is {h : HP} {x : Nat} {A : AB} (e : CLS h x A) {M : Int} (H : LOK A M) : WP (f_L_areWritesSo h x) (YES x A) := by
  have hS := H.1.1.2
  unfold SML at hS
  have hG := H.1.1
  have hL := hG.1.2.2.2.2.2.1
  unfold f_L_areWritesSo b_L_areWritesSo_0
  refine wrt (N_about e hG (w := 0) (by omega) (by decide)) fun h1 e1 => ?_
  dsimp only
  have hm := eOf_m1 A.1
  have h2 := aws_out H (A.1.2.1.length + 1) FU h1 (-1) (A.1.2.2.2.1 + 1) A.1.1.length (by show _ < 4096; omega) (by omega) (by omega) e1 (fun _ => hm) (fun d => by omega) (Nat.le_refl _) (fun j hj => by
    have := (hG.1.2.2.2.1 _ (wat_mem (ws := A.1.1) (j := (j : Int)) (by omega))).2
    omega) (by omega)
  rw [Nat.sub_self, show (A.1.1.length : Int) - A.1.1.length = 0 by omega] at h2
  rw [show tld A.1 0 = A.1.2.2.2.1 from rfl, zl1, zI_add, zl0]
  exact h2
