/-! how many pieces cleaning leaves -/
theorem rowsF_len {w : WR} {K : Int → Bool} : ∀ (n : Nat) (f : Int) (k : Nat), ((rowsF w K f k n).length : Int) ≤ cnt (fun i => K i = true) k n + (if f = -1 then 0 else 1) := by
  intro n
  induction n with
  | zero =>
    intro f k
    rw [rowsF_0]
    by_cases c : f = -1
    · rw [if_pos c, if_pos c]
      show (0 : Int) ≤ 0 + 0
      omega
    · rw [if_neg c, if_neg c]
      show (1 : Int) ≤ 0 + 1
      omega
  | succ n ih =>
    intro f k
    have hk : ((k : Int) + 1) = ((k + 1 : Nat) : Int) := by omega
    rw [rowsF_succ, cnt_succ, hk]
    by_cases c1 : K k = true
    · rw [if_pos c1, if_pos c1]
      by_cases c : f = -1
      · rw [if_pos c, if_pos c]
        have := ih k (k + 1)
        rw [if_neg (by omega)] at this
        omega
      · rw [if_neg c, if_neg c]
        have := ih f (k + 1)
        rw [if_neg c] at this
        omega
    · rw [if_neg c1, if_neg c1]
      have := ih (-1) (k + 1)
      rw [if_pos rfl] at this
      by_cases c : f = -1
      · rw [if_pos c, if_pos c]
        omega
      · rw [if_neg c, if_neg c, List.length_cons]
        omega
theorem cnt_part (P : Nat → Prop) [DecidablePred P] {p n a m : Nat} (h : a ≤ p ∧ p + n ≤ a + m) : cnt P p n ≤ cnt P a m := by
  have h1 := cnt_split P a (p - a) (m - (p - a))
  have h2 := cnt_split P p n (m - (p - a) - n)
  have h3 := cnt_b P a (p - a)
  have h4 := cnt_b P (p + n) (m - (p - a) - n)
  rw [show p - a + (m - (p - a)) = m by omega, show a + (p - a) = p by omega] at h1
  rw [show n + (m - (p - a) - n) = m - (p - a) by omega] at h2
  omega
theorem rws_len {w : WR} {K : Int → Bool} (hw : WOK w) : ((rws w K).length : Int) ≤ cnt (fun i => K i = true) 0 100 := by
  unfold WOK at hw
  have h1 := rowsF_len (w := w) (K := K) (w.2.2.1 + 1 - w.2.1).toNat (-1) w.2.1.toNat
  rw [if_pos rfl, show ((w.2.1.toNat : Nat) : Int) = w.2.1 by omega] at h1
  have h2 := cnt_part (fun i : Nat => K i = true) (p := w.2.1.toNat) (n := (w.2.2.1 + 1 - w.2.1).toNat) (a := 0) (m := 100) (by omega)
  unfold rws
  omega
theorem rws_len1 {w : WR} {K : Int → Bool} (hw : WOK w) (he : w.2.1 = w.2.2.1) : (rws w K).length ≤ 1 := by
  unfold WOK at hw
  have h1 := rowsF_len (w := w) (K := K) (w.2.2.1 + 1 - w.2.1).toNat (-1) w.2.1.toNat
  rw [if_pos rfl, show ((w.2.1.toNat : Nat) : Int) = w.2.1 by omega] at h1
  have h2 := cnt_b (fun i : Nat => K i = true) w.2.1.toNat (w.2.2.1 + 1 - w.2.1).toNat
  unfold rws
  omega
theorem smf_add (f g : Nat → Int) (p n : Nat) : smf (fun i => f i + g i) p n = smf f p n + smf g p n := by
  induction n generalizing p with
  | zero => rfl
  | succ n ih =>
    rw [smf_succ, smf_succ, smf_succ, ih]
    omega
theorem smf_cnt (P : Nat → Prop) [DecidablePred P] (p n : Nat) : smf (fun i => if P i then 1 else 0) p n = cnt P p n := by
  induction n generalizing p with
  | zero => rfl
  | succ n ih => rw [smf_succ, cnt_succ, ih]
theorem smf_0 (p n : Nat) : smf (fun _ => 0) p n = 0 := by
  induction n generalizing p with
  | zero => rfl
  | succ n ih => rw [smf_succ, ih, Int.zero_add]
theorem smf_c {f g : Nat → Int} {p n : Nat} (h : ∀ i, p ≤ i → i < p + n → f i = g i) : smf f p n = smf g p n := by
  induction n generalizing p with
  | zero => rfl
  | succ n ih => rw [smf_succ, smf_succ, ih (fun i h1 h2 => h i (by omega) (by omega)), h p (Nat.le_refl _) (by omega)]
theorem smf_le {f : Nat → Int} {p n : Nat} {c : Int} (h : ∀ i, p ≤ i → i < p + n → f i ≤ c) : smf f p n ≤ n * c := by
  induction n generalizing p with
  | zero =>
    show (0 : Int) ≤ _
    omega
  | succ n ih =>
    have h1 := ih (p := p + 1) (fun i h1 h2 => h i (by omega) (by omega))
    have h2 := h p (Nat.le_refl _) (by omega)
    rw [smf_succ, show ((n + 1 : Nat) : Int) * c = n * c + c by rw [show ((n + 1 : Nat) : Int) = (n : Int) + 1 by omega, Int.add_mul, Int.one_mul]]
    omega
theorem smf_swap (G : Nat → Nat → Bool) (a m j n : Nat) : smf (fun i => cnt (fun k => G i k = true) a m) j n = smf (fun k => cnt (fun i => G i k = true) j n) a m := by
  induction n generalizing j with
  | zero => exact (smf_0 a m).symm
  | succ n ih =>
    rw [smf_succ, ih]
    have h1 : smf (fun k => cnt (fun i => G i k = true) j (n + 1)) a m = smf (fun k => (if G j k = true then 1 else 0) + cnt (fun i => G i k = true) (j + 1) n) a m := rfl
    rw [h1, smf_add, smf_cnt]
/-- key k is left to grave i -/
def gkB (ws : List WR) (Y : List Int) (p q : Nat) (o : Bool) (i k : Nat) : Bool := !enB (wat ws i) && kpB ws Y p q o i k
theorem NUM_le {ws : List WR} (ho : ORD ws) {i j : Nat} (h : i ≤ j) (hj : j < ws.length) : (wat ws i).1 ≤ (wat ws j).1 := by
  by_cases c : i = j
  · rw [c]
    exact Int.le_refl _
  · exact ORD_N ho i j (by omega) hj
theorem gkB_cnt {ws : List WR} {Y : List Int} {p q : Nat} {o : Bool} (ho : ORD ws) (hq : q ≤ ws.length) (k : Nat) : ∀ (n j : Nat) (v : Int), j + n = q → v ≤ Y.length + 1 → (∀ i : Nat, j ≤ i → i < q → gkB ws Y p q o i k = true → v ≤ eB Y (wat ws i).1) → cnt (fun i => gkB ws Y p q o i k = true) j n ≤ Y.length + 1 - v := by
  intro n
  induction n with
  | zero =>
    intro j v hj hv h
    show (0 : Int) ≤ _
    omega
  | succ n ih =>
    intro j v hj hv h
    rw [cnt_succ]
    by_cases c : gkB ws Y p q o j k = true
    · rw [if_pos c]
      have h1 := h j (Nat.le_refl _) (by omega) c
      have h2 := eB_rng Y (wat ws j).1
      have h3 := ih (j + 1) (v + 1) (by omega) (by omega) (fun i h4 h5 h6 => by
        have h7 := eB_mono Y (NUM_le ho (i := j) (j := i) (by omega) (by omega))
        have h8 : eB Y (wat ws i).1 ≠ eB Y (wat ws j).1 := by
          intro he
          unfold gkB kpB k1B at c h6
          simp only [Bool.and_eq_true, Bool.not_eq_true'] at c h6
          have h9 : exB (hidB ws Y j k) (j + 1) (q - (j + 1)) = true := exB_iff.mpr ⟨i, by omega, by omega, by
            unfold hidB
            rw [h6.2.1.1, decide_eq_true he, h6.1]
            simp⟩
          rw [h9] at c
          exact absurd c.2.1.2 (by decide)
        omega)
      omega
    · rw [if_neg c]
      have h3 := ih (j + 1) v (by omega) hv (fun i h4 h5 h6 => h i (by omega) h5 h6)
      omega
theorem clF_len {ws : List WR} {Y : List Int} {p q : Nat} {o : Bool} (hw : WSOK ws) (he : ENT ws) : ∀ (n j : Nat), j + n ≤ ws.length → ((clF ws Y p q o j n).length : Int) ≤ cnt (fun i => enB (wat ws i) = true) j n + smf (fun i => cnt (fun k => gkB ws Y p q o i k = true) 0 100) j n := by
  intro n
  induction n with
  | zero => exact fun j _ => Int.le_refl _
  | succ n ih =>
    intro j hj
    have h1 := ih (j + 1) (by omega)
    rw [clF_succ, List.length_append, cnt_succ, smf_succ]
    have h0 := cnt_b (fun k => gkB ws Y p q o j k = true) 0 100
    by_cases c : enB (wat ws j) = true
    · rw [if_pos c]
      have h2 := rws_len1 (K := kpB ws Y p q o j) (WOK_at hw (j := j) (by omega)) (he _ (wat_mem (by omega)) (enB_iff.mp c))
      omega
    · rw [if_neg c]
      have h2 := rws_len (K := kpB ws Y p q o j) (WOK_at hw (j := j) (by omega))
      have h3 : cnt (fun k : Nat => kpB ws Y p q o j k = true) 0 100 = cnt (fun k => gkB ws Y p q o j k = true) 0 100 := cnt_c fun k _ _ => by
        unfold gkB
        rw [Bool.eq_false_iff.mpr c]
        rfl
      omega
theorem clL_len {ws : List WR} {Y : List Int} {p q : Nat} {o : Bool} (hw : WSOK ws) (he : ENT ws) (ho : ORD ws) (hp : p ≤ q) (hq : q ≤ ws.length) : ((clL ws Y p q o).length : Int) ≤ cnt (fun i => enB (wat ws i) = true) p (q - p) + 100 * (Y.length + 1) := by
  have h1 := clF_len (Y := Y) (p := p) (q := q) (o := o) hw he (q - p) p (by omega)
  rw [smf_swap (gkB ws Y p q o) 0 100 p (q - p)] at h1
  have h2 : smf (fun k => cnt (fun i => gkB ws Y p q o i k = true) p (q - p)) 0 100 ≤ (100 : Nat) * ((Y.length : Int) + 1) := smf_le fun k _ _ => by
    have := gkB_cnt (p := p) (o := o) (Y := Y) ho hq k (q - p) p 0 (by omega) (by omega) (fun i _ _ _ => (eB_rng Y _).1)
    omega
  unfold clL
  omega
theorem clL_len2 {ws : List WR} {Y : List Int} {p q : Nat} {o : Bool} (hw : WSOK ws) (he : ENT ws) (ho : ORD ws) (hp : p ≤ q) (hq : q ≤ ws.length) (h48 : ws.length ≤ 48) (hY : Y.length ≤ 2) : (clL ws Y p q o).length ≤ 348 := by
  have h1 := clL_len (Y := Y) (o := o) hw he ho hp hq
  have h2 := cnt_b (fun i => enB (wat ws i) = true) p (q - p)
  omega
