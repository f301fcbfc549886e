/-! how many pieces cleaning makes: a flush of few writes is never too much -/
theorem cnt_or_le (P Q : Nat → Prop) [DecidablePred P] [DecidablePred Q] (p n : Nat) : cnt (fun i => P i ∨ Q i) p n ≤ cnt P p n + cnt Q p n := by
  induction n generalizing p with
  | zero => exact Int.le_refl _
  | succ n ih =>
    have := ih (p + 1)
    rw [cnt_succ, cnt_succ, cnt_succ]
    by_cases a : P p
    · rw [if_pos (Or.inl a), if_pos a]
      split <;> omega
    · by_cases b : Q p
      · rw [if_pos (Or.inr b), if_neg a, if_pos b]
        omega
      · rw [if_neg (fun d => d.elim a b), if_neg a, if_neg b]
        omega
theorem cnt_eq_le (c : Int) (p n : Nat) : cnt (fun i => c = (i : Int)) p n ≤ 1 ∧ (c < p → cnt (fun i => c = (i : Int)) p n = 0) := by
  induction n generalizing p with
  | zero => exact ⟨by show (0 : Int) ≤ 1; omega, fun _ => rfl⟩
  | succ n ih =>
    have := ih (p + 1)
    rw [cnt_succ]
    by_cases a : c = (p : Int)
    · rw [if_pos a]
      have h2 := this.2 (by omega)
      omega
    · rw [if_neg a]
      exact ⟨by omega, fun d => by have := this.2 (by omega); omega⟩
theorem cnt_fst_le (g : Nat → Int) : ∀ (n a : Nat), cnt (fun i => exB (fun t => decide (g t = (i : Int))) a n = true) 0 100 ≤ n := by
  intro n
  induction n with
  | zero =>
    intro a
    have := cnt_0 (P := fun i => exB (fun t => decide (g t = (i : Int))) a 0 = true) (p := 0) (n := 100) (fun i _ _ h => absurd (show false = true from h) (by decide))
    omega
  | succ n ih =>
    intro a
    have h1 := ih (a + 1)
    have h2 := (cnt_eq_le (g a) 0 100).1
    have h3 := cnt_or_le (fun i => g a = (i : Int)) (fun i => exB (fun t => decide (g t = (i : Int))) (a + 1) n = true) 0 100
    have h4 : cnt (fun i => exB (fun t => decide (g t = (i : Int))) a (n + 1) = true) 0 100 = cnt (fun i => g a = (i : Int) ∨ exB (fun t => decide (g t = (i : Int))) (a + 1) n = true) 0 100 := cnt_c fun i _ _ => by
      rw [exB_succ, Bool.or_eq_true, decide_eq_true_eq]
    omega
def gapB (K : Int → Bool) (i : Nat) : Prop := K i = false ∧ K ((i : Int) - 1) = true
theorem rowsF_gap {w : WR} {K : Int → Bool} : ∀ (n : Nat) (f : Int) (k : Nat), (f ≠ -1 → K ((k : Int) - 1) = true) → ((rowsF w K f k n).length : Int) ≤ cnt (fun i => K i = false ∧ K ((i : Int) - 1) = true) k n + 1 := by
  intro n
  induction n with
  | zero =>
    intro f k h
    rw [rowsF_0]
    show _ ≤ (0 : Int) + 1
    split
    · show (0 : Int) ≤ 0 + 1
      omega
    · show (1 : Int) ≤ 0 + 1
      omega
  | succ n ih =>
    intro f k h
    have hk : (k : Int) + 1 = ((k + 1 : Nat) : Int) := by omega
    have hs : cnt (fun i => K i = false ∧ K ((i : Int) - 1) = true) k (n + 1) = (if K k = false ∧ K ((k : Int) - 1) = true then 1 else 0) + cnt (fun i => K i = false ∧ K ((i : Int) - 1) = true) (k + 1) n := cnt_succ _ _ _
    have hz : (0 : Int) ≤ (if K k = false ∧ K ((k : Int) - 1) = true then 1 else 0) := by split <;> omega
    rw [rowsF_succ, hk, hs]
    have hk2 : K (((k + 1 : Nat) : Int) - 1) = K k := congrArg K (by omega)
    by_cases c1 : K k = true
    · rw [if_pos c1]
      by_cases c : f = -1
      · rw [if_pos c]
        have := ih k (k + 1) (fun _ => by rw [hk2]; exact c1)
        omega
      · rw [if_neg c]
        have := ih f (k + 1) (fun _ => by rw [hk2]; exact c1)
        omega
    · rw [if_neg c1]
      have h1 := ih (-1) (k + 1) (fun d => absurd rfl d)
      by_cases c : f = -1
      · rw [if_pos c]
        omega
      · rw [if_neg c, if_pos ⟨Bool.not_eq_true _ ▸ c1, h c⟩, List.length_cons]
        omega
/-- a gap in what is left of a write begins where a newer one begins -/
theorem k1_gap {ws : List WR} {Y : List Int} {q j : Nat} {k : Int} (hc : wcB (wat ws j) k = true) (h0 : k1B ws Y q j k = false) (h1 : k1B ws Y q j (k - 1) = true) : ∃ i, j + 1 ≤ i ∧ i < j + 1 + (q - (j + 1)) ∧ (wat ws i).2.1 = k := by
  unfold k1B at h0 h1
  rw [hc, Bool.true_and] at h0
  rw [Bool.and_eq_true] at h1
  have h2 : exB (hidB ws Y j k) (j + 1) (q - (j + 1)) = true := by
    cases z : exB (hidB ws Y j k) (j + 1) (q - (j + 1)) with
    | true => rfl
    | false => rw [z] at h0; cases h0
  have h3 : exB (hidB ws Y j (k - 1)) (j + 1) (q - (j + 1)) = false := by
    cases z : exB (hidB ws Y j (k - 1)) (j + 1) (q - (j + 1)) with
    | false => rfl
    | true => rw [z] at h1; exact absurd h1.2 (by decide)
  obtain ⟨i, i1, i2, i3⟩ := exB_iff.mp h2
  refine ⟨i, i1, i2, ?_⟩
  unfold hidB at i3
  rw [Bool.and_eq_true, Bool.and_eq_true] at i3
  have h4 : ¬ wcB (wat ws i) (k - 1) = true := fun d => by
    have : exB (hidB ws Y j (k - 1)) (j + 1) (q - (j + 1)) = true := exB_iff.mpr ⟨i, i1, i2, by
      unfold hidB
      rw [Bool.and_eq_true, Bool.and_eq_true]
      exact ⟨⟨i3.1.1, d⟩, i3.2⟩⟩
    rw [h3] at this
    cases this
  rw [wcB_iff] at h4
  have h5 := wcB_iff.mp i3.1.2
  omega
theorem len_rwsF {ws : List WR} {Y : List Int} {p q j : Nat} (hw : WSOK ws) (he : ENT ws) (hj : j < q) (hq : q ≤ ws.length) : (rws (wat ws j) (kpB ws Y p q false j)).length ≤ q - j := by
  have hW := WOK_at hw (j := j) (by omega)
  unfold WOK at hW
  obtain ⟨f, hf⟩ : ∃ f : Nat, (wat ws j).2.1 = f := ⟨(wat ws j).2.1.toNat, by omega⟩
  have hn : (f : Int) + (((wat ws j).2.2.1 + 1 - (wat ws j).2.1).toNat : Nat) = (wat ws j).2.2.1 + 1 := by omega
  unfold rws
  rw [hf]
  rw [hf] at hn
  have hg := rowsF_gap (w := wat ws j) (K := kpB ws Y p q false j) ((wat ws j).2.2.1 + 1 - f).toNat (-1) f (fun d => absurd rfl d)
  have h1 : cnt (fun i => kpB ws Y p q false j i = false ∧ kpB ws Y p q false j ((i : Int) - 1) = true) f ((wat ws j).2.2.1 + 1 - f).toNat ≤ cnt (fun i => exB (fun t => decide ((wat ws t).2.1 = (i : Int))) (j + 1) (q - (j + 1)) = true) f ((wat ws j).2.2.1 + 1 - f).toNat := by
    refine cnt_mono fun i i1 i2 ⟨i3, i4⟩ => ?_
    rw [kpB_F] at i3 i4
    obtain ⟨g, g1, g2, g3⟩ := k1_gap (wcB_iff.mpr (by omega)) i3 i4
    exact exB_iff.mpr ⟨g, g1, g2, decide_eq_true g3⟩
  have h2 := cnt_part (fun i => exB (fun t => decide ((wat ws t).2.1 = (i : Int))) (j + 1) (q - (j + 1)) = true) (p := f) (n := ((wat ws j).2.2.1 + 1 - f).toNat) (a := 0) (m := 100) (by omega)
  have h3 := cnt_fst_le (fun t => (wat ws t).2.1) (q - (j + 1)) (j + 1)
  omega
theorem len_rwsT {ws : List WR} {Y : List Int} {p q j : Nat} (hw : WSOK ws) (he : ENT ws) (hp : p ≤ j) (hj : j < q) (hq : q ≤ ws.length) : (rws (wat ws j) (kpB ws Y p q true j)).length ≤ j - p + 1 := by
  have hW := WOK_at hw (j := j) (by omega)
  by_cases c : enB (wat ws j) = true
  · have h1 := he _ (wat_mem (ws := ws) (j := j) (by omega)) (enB_iff.mp c)
    unfold WOK at hW
    obtain ⟨f, hf⟩ : ∃ f : Nat, (wat ws j).2.1 = f := ⟨(wat ws j).2.1.toNat, by omega⟩
    unfold rws
    rw [← h1, hf]
    have hg := rowsF_len (w := wat ws j) (K := kpB ws Y p q true j) ((f : Int) + 1 - f).toNat (-1) f
    rw [if_pos rfl] at hg
    have hb := cnt_b (fun i => kpB ws Y p q true j i = true) f ((f : Int) + 1 - f).toNat
    omega
  · have hg := rws_len (w := wat ws j) (K := kpB ws Y p q true j) hW
    have h1 : cnt (fun i => kpB ws Y p q true j i = true) 0 100 ≤ cnt (fun i => exB (fun t => decide ((wat ws t).2.1 = (i : Int))) p (j - p) = true) 0 100 := by
      refine cnt_mono fun i i1 i2 i3 => ?_
      rw [kpB_T, Bool.and_eq_true, Bool.or_eq_true] at i3
      rcases i3.2 with z | z
      · exact absurd z c
      · obtain ⟨g, g1, g2, g3⟩ := exB_iff.mp z
        rw [Bool.and_eq_true] at g3
        have h5 := he _ (wat_mem (ws := ws) (j := g) (by omega)) (enB_iff.mp g3.1)
        have h6 := g3.2
        unfold k1B at h6
        rw [Bool.and_eq_true, wcB_iff] at h6
        exact exB_iff.mpr ⟨g, g1, g2, decide_eq_true (by omega)⟩
    have h3 := cnt_fst_le (fun t => (wat ws t).2.1) (j - p) p
    omega
def tri : Nat → Nat
  | 0 => 0
  | n + 1 => (n + 1) + tri n
theorem clF_lenF {ws : List WR} {Y : List Int} {p q : Nat} (hw : WSOK ws) (he : ENT ws) (hq : q ≤ ws.length) : ∀ (n j : Nat), j + n = q → (clF ws Y p q false j n).length ≤ tri n := by
  intro n
  induction n with
  | zero => exact fun j _ => Nat.le_refl _
  | succ n ih =>
    intro j hj
    have h1 := ih (j + 1) (by omega)
    have h2 := len_rwsF (Y := Y) (p := p) hw he (show j < q by omega) hq
    have h3 : tri (n + 1) = (n + 1) + tri n := rfl
    rw [clF_succ, List.length_append]
    omega
theorem clF_lenT2 {ws : List WR} {Y : List Int} {p q : Nat} (hw : WSOK ws) (he : ENT ws) (hq : q ≤ ws.length) : ∀ (n j : Nat), j + n = q → p ≤ j → (clF ws Y p q true j n).length ≤ n * (j - p) + tri n := by
  intro n
  induction n with
  | zero => exact fun j _ _ => Nat.zero_le _
  | succ n ih =>
    intro j hj hp
    have h1 := ih (j + 1) (by omega) (by omega)
    have h2 := len_rwsT (Y := Y) hw he hp (show j < q by omega) hq
    have h3 : tri (n + 1) = (n + 1) + tri n := rfl
    have h4 : n * (j + 1 - p) = n * (j - p) + n := by
      rw [show j + 1 - p = (j - p) + 1 by omega, Nat.mul_succ]
    have h5 : (n + 1) * (j - p) = n * (j - p) + (j - p) := Nat.succ_mul _ _
    rw [clF_succ, List.length_append]
    omega
theorem clL_tri {ws : List WR} {Y : List Int} {p q : Nat} {o : Bool} (hw : WSOK ws) (he : ENT ws) (hp : p ≤ q) (hq : q ≤ ws.length) : (clL ws Y p q o).length ≤ tri (q - p) := by
  unfold clL
  cases o with
  | false => exact clF_lenF hw he hq (q - p) p (by omega)
  | true =>
    have := clF_lenT2 (Y := Y) (p := p) hw he hq (q - p) p (by omega) (Nat.le_refl _)
    rw [Nat.sub_self, Nat.mul_zero] at this
    omega
theorem tri_7 {n : Nat} (h : n ≤ 7) : tri n ≤ n + 21 := by
  have h8 : ∀ f : Fin 8, tri f.val ≤ f.val + 21 := by decide
  exact h8 ⟨n, by omega⟩
/-- where memory has at most 7 writes and all are fewer than 28, they can be flushed -/
theorem flF_few {S : SG} {M : Int} (H : SOK S M) (h1 : 0 < eOf S (-1) - sOf S (-1) ∧ eOf S (-1) - sOf S (-1) ≤ 7) (h2 : S.1.length < 28) (h3 : S.2.1.length < 5) : flF S = 0 := by
  have hE := H.2.2.2.2.2.2
  have hp := plc hE (i := -1) (by omega)
  have hl : (flK S).length ≤ tri ((eOf S (-1)).toNat - (sOf S (-1)).toNat) := clL_tri H.1 H.2.2.1 (by omega) (by omega)
  have ht := tri_7 (n := (eOf S (-1)).toNat - (sOf S (-1)).toNat) (by omega)
  have hm := eOf_m1 S
  unfold flF
  rw [if_neg (by omega), if_pos (by omega)]
