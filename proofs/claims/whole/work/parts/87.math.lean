/-! what cleaning keeps when there are no eyes -/
def st1 (w : WR) (k : Int) : Option Bool := if wcB w k = true then some (enB w) else none
/-- the newest write that concerns a key: none, a grave (false) or an entry (true) -/
def st : List WR → Int → Option Bool
  | [], _ => none
  | w :: l, k => (st l k).or (st1 w k)
def stI (ws : List WR) (j : Nat) : Nat → Int → Option Bool
  | 0, _ => none
  | n + 1, k => (stI ws (j + 1) n k).or (st1 (wat ws j) k)
theorem st_append (a b : List WR) (k : Int) : st (a ++ b) k = (st b k).or (st a k) := by
  induction a with
  | nil =>
    show st b k = (st b k).or none
    rw [Option.or_none]
  | cons w a ih =>
    show (st (a ++ b) k).or (st1 w k) = (st b k).or ((st a k).or (st1 w k))
    rw [ih, Option.or_assoc]
theorem st_sl {ws : List WR} {k : Int} : ∀ (n j : Nat), j + n ≤ ws.length → st ((ws.drop j).take n) k = stI ws j n k := by
  intro n
  induction n with
  | zero =>
    intro j hj
    rw [List.take_zero]
    rfl
  | succ n ih =>
    intro j hj
    rw [List.drop_eq_getElem_cons (by omega), List.take_succ_cons]
    show (st ((ws.drop (j + 1)).take n) k).or (st1 ws[j] k) = (stI ws (j + 1) n k).or (st1 (wat ws j) k)
    rw [ih (j + 1) (by omega), wat_get (by omega)]
theorem st_rowsF {w : WR} {K : Int → Bool} {k : Int} : ∀ (n : Nat) (f c : Int), (f = -1 ∨ (0 ≤ f ∧ f < c)) → 0 ≤ c → st (rowsF w K f c n) k = if ((f ≠ -1 ∧ f ≤ k ∧ k < c) ∨ (c ≤ k ∧ k < c + n ∧ K k = true)) then some (enB w) else none := by
  have one : ∀ (a b : Int), st1 (w.1, a, b, w.2.2.2) k = if a ≤ k ∧ k ≤ b then some (enB w) else none := fun a b => by
    unfold st1
    by_cases c : a ≤ k ∧ k ≤ b
    · rw [if_pos (wcB_iff.mpr c), if_pos c]
      rfl
    · rw [if_neg (fun d => c (wcB_iff.mp d)), if_neg c]
  have oi : ∀ {P Q : Prop} [Decidable P] [Decidable Q], (if P then some (enB w) else none).or (if Q then some (enB w) else none) = if P ∨ Q then some (enB w) else none := by
    intro P Q _ _
    by_cases p : P
    · rw [if_pos p, if_pos (Or.inl p), Option.some_or]
    · rw [if_neg p, Option.none_or]
      by_cases q : Q
      · rw [if_pos q, if_pos (Or.inr q)]
      · rw [if_neg q, if_neg (fun d => d.elim p q)]
  have cg : ∀ {P Q : Prop} [Decidable P] [Decidable Q], (P ↔ Q) → (if P then some (enB w) else none) = if Q then some (enB w) else none := by
    intro P Q _ _ h
    by_cases p : P
    · rw [if_pos p, if_pos (h.mp p)]
    · rw [if_neg p, if_neg (fun d => p (h.mpr d))]
  intro n
  induction n with
  | zero =>
    intro f c hf hc
    rw [rowsF_0]
    by_cases c0 : f = -1
    · rw [if_pos c0, if_neg (by omega)]
      rfl
    · rw [if_neg c0]
      show (none : Option Bool).or (st1 _ k) = _
      rw [Option.none_or, one]
      exact cg (by omega)
  | succ n ih =>
    intro f c hf hc
    rw [rowsF_succ]
    have hk : ∀ K1 : Bool, K c = K1 → ((c ≤ k ∧ k < c + (n + 1 : Nat) ∧ K k = true) ↔ ((k = c ∧ K1 = true) ∨ (c + 1 ≤ k ∧ k < c + 1 + n ∧ K k = true))) := by
      intro K1 h1
      constructor
      · rintro ⟨a1, a2, a3⟩
        by_cases d : k = c
        · subst d
          exact Or.inl ⟨rfl, h1.symm.trans a3⟩
        · exact Or.inr ⟨by omega, by omega, a3⟩
      · rintro (⟨a1, a2⟩ | ⟨a1, a2, a3⟩)
        · subst a1
          exact ⟨by omega, by omega, h1.trans a2⟩
        · exact ⟨by omega, by omega, a3⟩
    by_cases c1 : K c = true
    · rw [if_pos c1]
      have h1 := hk true c1
      by_cases c0 : f = -1
      · rw [if_pos c0, ih c (c + 1) (by omega) (by omega)]
        refine cg ?_
        rw [h1]
        constructor
        · rintro (a | a)
          · exact Or.inr (Or.inl ⟨by omega, rfl⟩)
          · exact Or.inr (Or.inr a)
        · rintro (a | a | a)
          · omega
          · exact Or.inl (by omega)
          · exact Or.inr a
      · rw [if_neg c0, ih f (c + 1) (by omega) (by omega)]
        refine cg ?_
        rw [h1]
        constructor
        · rintro (a | a)
          · by_cases d : k = c
            · exact Or.inr (Or.inl ⟨d, rfl⟩)
            · exact Or.inl (by omega)
          · exact Or.inr (Or.inr a)
        · rintro (a | a | a)
          · exact Or.inl (by omega)
          · exact Or.inl (by omega)
          · exact Or.inr a
    · rw [if_neg c1]
      have h1 := hk false (by cases h : K c <;> simp_all)
      by_cases c0 : f = -1
      · rw [if_pos c0, ih (-1) (c + 1) (by omega) (by omega)]
        refine cg ?_
        rw [h1]
        constructor
        · rintro (a | a)
          · omega
          · exact Or.inr (Or.inr a)
        · rintro (a | a | a)
          · omega
          · exact absurd a.2 (by decide)
          · exact Or.inr a
      · rw [if_neg c0]
        show (st (rowsF w K (-1) (c + 1) n) k).or (st1 _ k) = _
        rw [ih (-1) (c + 1) (by omega) (by omega), one, oi]
        refine cg ?_
        rw [h1]
        constructor
        · rintro ((a | a) | a)
          · omega
          · exact Or.inr (Or.inr a)
          · exact Or.inl (by omega)
        · rintro (a | a | a)
          · exact Or.inr (by omega)
          · exact absurd a.2 (by decide)
          · exact Or.inl (Or.inr a)
theorem st_rws {w : WR} (hw : WOK w) (K : Int → Bool) (k : Int) : st (rws w K) k = if wcB w k = true ∧ K k = true then some (enB w) else none := by
  unfold WOK at hw
  unfold rws
  rw [st_rowsF _ _ _ (Or.inl rfl) (by omega)]
  have e : (((-1 : Int) ≠ -1 ∧ -1 ≤ k ∧ k < w.2.1) ∨ (w.2.1 ≤ k ∧ k < w.2.1 + ((w.2.2.1 + 1 - w.2.1).toNat : Nat) ∧ K k = true)) ↔ (wcB w k = true ∧ K k = true) := by
    rw [wcB_iff]
    constructor
    · rintro (a | a)
      · exact absurd rfl a.1
      · exact ⟨by omega, a.2.2⟩
    · rintro ⟨a, b⟩
      exact Or.inr ⟨by omega, by omega, b⟩
  by_cases c : wcB w k = true ∧ K k = true
  · rw [if_pos c, if_pos (e.mpr c)]
  · rw [if_neg c, if_neg (fun d => c (e.mp d))]
theorem stI_none {ws : List WR} {k : Int} : ∀ {n j : Nat}, stI ws j n k = none → ∀ i, j ≤ i → i < j + n → wcB (wat ws i) k = false := by
  intro n
  induction n with
  | zero =>
    intro j h i h1 h2
    omega
  | succ n ih =>
    intro j h i h1 h2
    have h3 : (stI ws (j + 1) n k).or (st1 (wat ws j) k) = none := h
    rw [Option.or_eq_none_iff] at h3
    by_cases c : i = j
    · subst c
      have h4 := h3.2
      unfold st1 at h4
      by_cases d : wcB (wat ws i) k = true
      · rw [if_pos d] at h4
        exact absurd h4 (by simp)
      · cases hb : wcB (wat ws i) k <;> simp_all
    · exact ih h3.1 i (by omega) (by omega)
theorem stI_some {ws : List WR} {k : Int} {b : Bool} : ∀ {n j : Nat}, stI ws j n k = some b → ∃ i, j ≤ i ∧ i < j + n ∧ wcB (wat ws i) k = true ∧ enB (wat ws i) = b ∧ ∀ i', i < i' → i' < j + n → wcB (wat ws i') k = false := by
  intro n
  induction n with
  | zero =>
    intro j h
    exact absurd h (by simp [stI])
  | succ n ih =>
    intro j h
    have h3 : (stI ws (j + 1) n k).or (st1 (wat ws j) k) = some b := h
    cases hs : stI ws (j + 1) n k with
    | none =>
      rw [hs, Option.none_or] at h3
      unfold st1 at h3
      by_cases d : wcB (wat ws j) k = true
      · rw [if_pos d] at h3
        exact ⟨j, by omega, by omega, d, Option.some.inj h3, fun i' h1 h2 => stI_none hs i' (by omega) (by omega)⟩
      · rw [if_neg d] at h3
        exact absurd h3 (by simp)
    | some b' =>
      rw [hs, Option.some_or] at h3
      have h4 : b' = b := Option.some.inj h3
      subst h4
      obtain ⟨i, h1, h2, h5, h6, h7⟩ := ih hs
      exact ⟨i, by omega, by omega, h5, h6, fun i' a b => h7 i' a (by omega)⟩
theorem hid_nil {ws : List WR} {j : Nat} {k : Int} {i : Nat} : hidB ws [] j k i = true ↔ wcB (wat ws i) k = true ∧ (enB (wat ws j) = true ∨ enB (wat ws i) = false) := by
  unfold hidB
  rw [decide_eq_true (show eB [] (wat ws i).1 = eB [] (wat ws j).1 from rfl)]
  cases wcB (wat ws i) k <;> cases enB (wat ws j) <;> cases enB (wat ws i) <;> simp
theorem Bf {b : Bool} (h : ¬ b = true) : b = false := by
  cases b
  · rfl
  · exact absurd rfl h
theorem k1_iff {ws : List WR} {q j : Nat} {k : Int} (hj : j < q) : k1B ws [] q j k = true ↔ wcB (wat ws j) k = true ∧ ∀ i : Nat, j < i → i < q → hidB ws [] j k i = false := by
  unfold k1B
  rw [Bool.and_eq_true, Bool.not_eq_true']
  constructor
  · rintro ⟨a, b⟩
    refine ⟨a, fun i h1 h2 => Bf fun d => ?_⟩
    have : exB (hidB ws [] j k) (j + 1) (q - (j + 1)) = true := exB_iff.mpr ⟨i, by omega, by omega, d⟩
    rw [b] at this
    exact absurd this (by decide)
  · rintro ⟨a, b⟩
    exact ⟨a, exB_0 fun i h1 h2 => b i (by omega) (by omega)⟩
/-- nothing later concerns the key -/
theorem k1_none {ws : List WR} {q j n : Nat} {k : Int} (hj : j + 1 + n = q) (h : stI ws (j + 1) n k = none) : k1B ws [] q j k = wcB (wat ws j) k := by
  refine Beq ?_
  rw [k1_iff (by omega)]
  constructor
  · exact fun d => d.1
  · intro d
    refine ⟨d, fun i h1 h2 => Bf fun h3 => ?_⟩
    have h4 := stI_none h i (by omega) (by omega)
    rw [(hid_nil.mp h3).1] at h4
    exact absurd h4 (by decide)
/-- a later grave hides all -/
theorem k1_grv {ws : List WR} {q j n : Nat} {k : Int} (hj : j + 1 + n = q) (h : stI ws (j + 1) n k = some false) : k1B ws [] q j k = false := by
  obtain ⟨i, h1, h2, h3, h4, -⟩ := stI_some h
  refine Bf fun d => ?_
  have := (((k1_iff (by omega)).mp d).2 i (by omega) (by omega))
  rw [hid_nil.mpr ⟨h3, Or.inr h4⟩] at this
  exact absurd this (by decide)
/-- a later write of the key hides an entry -/
theorem k1_ent {ws : List WR} {q j i : Nat} {k : Int} (hj : j < i) (hi : i < q) (he : enB (wat ws j) = true) (hc : wcB (wat ws i) k = true) : k1B ws [] q j k = false := by
  refine Bf fun d => ?_
  have := (((k1_iff (by omega)).mp d).2 i hj hi)
  rw [hid_nil.mpr ⟨hc, Or.inl he⟩] at this
  exact absurd this (by decide)
theorem kp_F {ws : List WR} {p q j : Nat} {k : Int} : kpB ws [] p q false j k = k1B ws [] q j k := by
  unfold kpB
  rw [Bool.not_false, Bool.true_or, Bool.true_or, Bool.and_true]
theorem kp_E {ws : List WR} {p q j : Nat} {k : Int} {o : Bool} (he : enB (wat ws j) = true) : kpB ws [] p q o j k = k1B ws [] q j k := by
  unfold kpB
  rw [he, Bool.or_true, Bool.true_or, Bool.and_true]
/-- of a grave nothing is kept where nothing is older -/
theorem kp_G {ws : List WR} {p q j : Nat} {k : Int} (hj : j < q) (he : enB (wat ws j) = false) : kpB ws [] p q true j k = false := by
  refine Bf fun d => ?_
  unfold kpB at d
  rw [he, Bool.not_true, Bool.false_or, Bool.false_or, Bool.and_eq_true] at d
  obtain ⟨a, b⟩ := d
  obtain ⟨i, h1, h2, h3⟩ := exB_iff.mp b
  rw [Bool.and_eq_true] at h3
  have := k1_ent (ws := ws) (q := q) (j := i) (i := j) (k := k) (by omega) hj h3.1 ((k1_iff hj).mp a).1
  rw [h3.2] at this
  exact absurd this (by decide)
theorem clF_stF {ws : List WR} {p q : Nat} {k : Int} (hw : WSOK ws) (hq : q ≤ ws.length) : ∀ (n j : Nat), j + n = q → st (clF ws [] p q false j n) k = stI ws j n k := by
  intro n
  induction n with
  | zero => exact fun j _ => rfl
  | succ n ih =>
    intro j hj
    rw [clF_succ, st_append, ih (j + 1) (by omega), st_rws (WOK_at hw (by omega))]
    show _ = (stI ws (j + 1) n k).or (st1 (wat ws j) k)
    cases hs : stI ws (j + 1) n k with
    | some b => rw [Option.some_or, Option.some_or]
    | none =>
      rw [Option.none_or, Option.none_or, kp_F, k1_none (by omega) hs]
      unfold st1
      by_cases c : wcB (wat ws j) k = true
      · rw [if_pos c, if_pos ⟨c, c⟩]
      · rw [if_neg c, if_neg (fun d => c d.1)]
theorem clF_stT {ws : List WR} {p q : Nat} {k : Int} (hw : WSOK ws) (hq : q ≤ ws.length) : ∀ (n j : Nat), j + n = q → st (clF ws [] p q true j n) k = if stI ws j n k = some true then some true else none := by
  intro n
  induction n with
  | zero => exact fun j _ => rfl
  | succ n ih =>
    intro j hj
    rw [clF_succ, st_append, ih (j + 1) (by omega), st_rws (WOK_at hw (by omega)), show stI ws j (n + 1) k = (stI ws (j + 1) n k).or (st1 (wat ws j) k) from rfl]
    cases hs : stI ws (j + 1) n k with
    | some b =>
      cases b with
      | true => rw [if_pos rfl, Option.some_or, Option.some_or, if_pos rfl]
      | false =>
        rw [if_neg (by simp), Option.none_or, Option.some_or, if_neg (show ¬ (some false = some true) by simp)]
        by_cases c : enB (wat ws j) = true
        · rw [kp_E c, k1_grv (by omega) hs, if_neg (by simp)]
        · rw [kp_G (by omega) (Bf c), if_neg (by simp)]
    | none =>
      rw [if_neg (by simp), Option.none_or, Option.none_or]
      by_cases c : enB (wat ws j) = true
      · rw [kp_E c, k1_none (by omega) hs]
        unfold st1
        rw [c]
        by_cases c2 : wcB (wat ws j) k = true
        · rw [if_pos c2, if_pos ⟨c2, c2⟩, if_pos rfl]
        · rw [if_neg c2, if_neg (fun d => c2 d.1), if_neg (by simp)]
      · rw [kp_G (by omega) (Bf c), if_neg (by simp)]
        unfold st1
        rw [Bf c]
        split
        · rw [if_neg (by simp)]
        · rw [if_neg (by simp)]
theorem rowsF_nil {w : WR} {K : Int → Bool} : ∀ (n : Nat) (c : Int), (∀ k, c ≤ k → k < c + n → K k = false) → rowsF w K (-1) c n = [] := by
  intro n
  induction n with
  | zero =>
    intro c _
    rw [rowsF_0, if_pos rfl]
  | succ n ih =>
    intro c h
    rw [rowsF_succ, h c (by omega) (by omega), if_neg (by decide), if_pos rfl]
    exact ih (c + 1) fun k h1 h2 => h k (by omega) (by omega)
theorem cnt_or {P Q : Nat → Prop} [DecidablePred P] [DecidablePred Q] {p n : Nat} (h : ∀ i, p ≤ i → i < p + n → ¬ (P i ∧ Q i)) : cnt (fun i => P i ∨ Q i) p n = cnt P p n + cnt Q p n := by
  induction n generalizing p with
  | zero => rfl
  | succ n ih =>
    have h1 := ih (p := p + 1) (fun i h1 h2 => h i (by omega) (by omega))
    have h2 := h p (Nat.le_refl _) (by omega)
    rw [cnt_succ, cnt_succ, cnt_succ, h1]
    by_cases c : P p
    · rw [if_pos (Or.inl c), if_pos c, if_neg (fun d => h2 ⟨c, d⟩)]
      omega
    · by_cases d : Q p
      · rw [if_pos (Or.inr d), if_neg c, if_pos d]
        omega
      · rw [if_neg (fun e => e.elim c d), if_neg c, if_neg d]
        omega
theorem cnt_one {R : Prop} [Decidable R] {k0 p n : Nat} (h : p ≤ k0 ∧ k0 < p + n) : cnt (fun i => i = k0 ∧ R) p n = if R then 1 else 0 := by
  rw [show n = (k0 - p) + (1 + (n - (k0 - p) - 1)) by omega, cnt_split, cnt_split, cnt_0 (p := p) (fun i h1 h2 d => by omega), cnt_0 (p := p + (k0 - p) + 1) (fun i h1 h2 d => by omega), show p + (k0 - p) = k0 by omega]
  have : cnt (fun i => i = k0 ∧ R) k0 1 = if R then 1 else 0 := by
    rw [cnt_succ]
    show _ + (0 : Int) = _
    by_cases c : R
    · rw [if_pos c, if_pos ⟨rfl, c⟩]
      rfl
    · rw [if_neg c, if_neg (fun d => c d.2)]
      rfl
  rw [this]
  omega
theorem clF_lenT {ws : List WR} {p q : Nat} (hw : WSOK ws) (he : ENT ws) (hq : q ≤ ws.length) : ∀ (n j : Nat), j + n = q → ((clF ws [] p q true j n).length : Int) = cnt (fun k => stI ws j n k = some true) 0 100 := by
  intro n
  induction n with
  | zero =>
    intro j _
    rw [cnt_0 (fun i _ _ d => absurd d (by simp [stI]))]
    rfl
  | succ n ih =>
    intro j hj
    have hwj := WOK_at hw (j := j) (by omega)
    have hwj' := hwj
    unfold WOK at hwj'
    have e1 : ∀ k : Int, stI ws j (n + 1) k = (stI ws (j + 1) n k).or (st1 (wat ws j) k) := fun k => rfl
    rw [clF_succ, List.length_append]
    have h1 := ih (j + 1) (by omega)
    by_cases c : enB (wat ws j) = true
    · have h0 : (wat ws j).2.1 = (wat ws j).2.2.1 := he _ (wat_mem (by omega)) (enB_iff.mp c)
      have h2 : cnt (fun k => stI ws j (n + 1) k = some true) 0 100 = cnt (fun k => stI ws (j + 1) n k = some true ∨ (k = (wat ws j).2.1.toNat ∧ stI ws (j + 1) n (wat ws j).2.1 = none)) 0 100 := by
        refine cnt_c fun k _ hk => ?_
        rw [e1]
        cases hs : stI ws (j + 1) n k with
        | some b =>
          rw [Option.some_or]
          constructor
          · exact Or.inl
          · rintro (d | ⟨d1, d2⟩)
            · exact d
            · rw [show ((wat ws j).2.1) = (k : Int) by omega, hs] at d2
              exact absurd d2 (by simp)
        | none =>
          rw [Option.none_or]
          unfold st1
          constructor
          · intro d
            by_cases c2 : wcB (wat ws j) k = true
            · have := wcB_iff.mp c2
              refine Or.inr ⟨by omega, ?_⟩
              rw [show ((wat ws j).2.1) = (k : Int) by omega, hs]
            · rw [if_neg c2] at d
              exact absurd d (by simp)
          · rintro (d | ⟨d1, d2⟩)
            · exact absurd d (by simp)
            · rw [if_pos (wcB_iff.mpr (by omega)), c]
      rw [h2, cnt_or (fun i _ _ d => by
        have h3 := d.2.2
        rw [show ((wat ws j).2.1) = (i : Int) by omega, d.1] at h3
        exact absurd h3 (by simp)), cnt_one (by omega), ← h1]
      have h4 : (rws (wat ws j) (kpB ws [] p q true j)).length = if stI ws (j + 1) n (wat ws j).2.1 = none then 1 else 0 := by
        unfold rws
        rw [show ((wat ws j).2.2.1 + 1 - (wat ws j).2.1).toNat = 1 by omega, rowsF_succ, kp_E c]
        by_cases d : stI ws (j + 1) n (wat ws j).2.1 = none
        · rw [if_pos d, k1_none (by omega) d, wcB_iff.mpr (by omega), if_pos rfl, if_pos rfl, rowsF_0, if_neg (by omega)]
          rfl
        · rw [if_neg d]
          have h5 : k1B ws [] q j (wat ws j).2.1 = false := by
            cases hs : stI ws (j + 1) n (wat ws j).2.1 with
            | none => exact absurd hs d
            | some b =>
              obtain ⟨i, a1, a2, a3, a4, -⟩ := stI_some hs
              exact k1_ent (by omega) (by omega) c a3
          rw [h5, if_neg (by decide), if_pos rfl, rowsF_0, if_pos rfl]
          rfl
      rw [h4]
      split <;> omega
    · have h2 : cnt (fun k => stI ws j (n + 1) k = some true) 0 100 = cnt (fun k => stI ws (j + 1) n k = some true) 0 100 := by
        refine cnt_c fun k _ hk => ?_
        rw [e1]
        cases hs : stI ws (j + 1) n k with
        | some b => rw [Option.some_or]
        | none =>
          rw [Option.none_or]
          unfold st1
          rw [Bf c]
          constructor
          · intro d
            split at d
            · exact absurd d (by simp)
            · exact d
          · intro d
            exact absurd d (by simp)
      have h4 : rws (wat ws j) (kpB ws [] p q true j) = [] := by
        unfold rws
        exact rowsF_nil _ _ fun k _ _ => kp_G (by omega) (Bf c)
      rw [h2, h4, List.length_nil, ← h1]
      omega
