theorem hid_nil {ws : List WR} {j : Nat} {k : Int} {i : Nat} : hidB ws [] j k i = true ↔ wcB (wat ws i) k = true ∧ (enB (wat ws j) = true ∨ enB (wat ws i) = false) := by
  unfold hidB
  rw [decide_eq_true (show eB [] (wat ws i).1 = eB [] (wat ws j).1 from rfl)]
  cases wcB (wat ws i) k <;> cases enB (wat ws j) <;> cases enB (wat ws i) <;> simp
theorem Bf {b : Bool} (h : ¬ b = true) : b = false := by
  cases b
  · rfl
  · exact absurd rfl h
theorem k1_iff {ws : List WR} {q j : Nat} {k : Int} (hj : j < q) : k1B ws [] q j k = true ↔ wcB (wat ws j) k = true ∧ ∀ i : Nat, j < i → i < q → hidB ws [] j k i = false := by
  unfold k1B
  rw [Bool.and_eq_true, Bool.not_eq_true']
  constructor
  · rintro ⟨a, b⟩
    refine ⟨a, fun i h1 h2 => Bf fun d => ?_⟩
    have : exB (hidB ws [] j k) (j + 1) (q - (j + 1)) = true := exB_iff.mpr ⟨i, by omega, by omega, d⟩
    rw [b] at this
    exact absurd this (by decide)
  · rintro ⟨a, b⟩
    exact ⟨a, exB_0 fun i h1 h2 => b i (by omega) (by omega)⟩
theorem k1_none {ws : List WR} {q j n : Nat} {k : Int} (hj : j + 1 + n = q) (h : stI ws (j + 1) n k = none) : k1B ws [] q j k = wcB (wat ws j) k := by
  refine Beq ?_
  rw [k1_iff (by omega)]
  constructor
  · exact fun d => d.1
  · intro d
    refine ⟨d, fun i h1 h2 => Bf fun h3 => ?_⟩
    have h4 := stI_none h i (by omega) (by omega)
    rw [(hid_nil.mp h3).1] at h4
    exact absurd h4 (by decide)
theorem k1_grv {ws : List WR} {q j n : Nat} {k : Int} (hj : j + 1 + n = q) (h : stI ws (j + 1) n k = some false) : k1B ws [] q j k = false := by
  obtain ⟨i, h1, h2, h3, h4, -⟩ := stI_some h
  refine Bf fun d => ?_
  have := (((k1_iff (by omega)).mp d).2 i (by omega) (by omega))
  rw [hid_nil.mpr ⟨h3, Or.inr h4⟩] at this
  exact absurd this (by decide)
theorem k1_ent {ws : List WR} {q j i : Nat} {k : Int} (hj : j < i) (hi : i < q) (he : enB (wat ws j) = true) (hc : wcB (wat ws i) k = true) : k1B ws [] q j k = false := by
  refine Bf fun d => ?_
  have := (((k1_iff (by omega)).mp d).2 i hj hi)
  rw [hid_nil.mpr ⟨hc, Or.inl he⟩] at this
  exact absurd this (by decide)
theorem kp_F {ws : List WR} {p q j : Nat} {k : Int} : kpB ws [] p q false j k = k1B ws [] q j k := by
  unfold kpB
  rw [Bool.not_false, Bool.true_or, Bool.true_or, Bool.and_true]
theorem kp_E {ws : List WR} {p q j : Nat} {k : Int} {o : Bool} (he : enB (wat ws j) = true) : kpB ws [] p q o j k = k1B ws [] q j k := by
  unfold kpB
  rw [he, Bool.or_true, Bool.true_or, Bool.and_true]
theorem kp_G {ws : List WR} {p q j : Nat} {k : Int} (hj : j < q) (he : enB (wat ws j) = false) : kpB ws [] p q true j k = false := by
  refine Bf fun d => ?_
  unfold kpB at d
  rw [he, Bool.not_true, Bool.false_or, Bool.false_or, Bool.and_eq_true] at d
  obtain ⟨a, b⟩ := d
  obtain ⟨i, h1, h2, h3⟩ := exB_iff.mp b
  rw [Bool.and_eq_true] at h3
  have := k1_ent (ws := ws) (q := q) (j := i) (i := j) (k := k) (by omega) hj h3.1 ((k1_iff hj).mp a).1
  rw [h3.2] at this
  exact absurd this (by decide)
theorem clF_stF {ws : List WR} {p q : Nat} {k : Int} (hw : WSOK ws) (hq : q ≤ ws.length) : ∀ (n j : Nat), j + n = q → st (clF ws [] p q false j n) k = stI ws j n k := by
  intro n
  induction n with
  | zero => exact fun j _ => rfl
  | succ n ih =>
    intro j hj
    rw [clF_succ, st_append, ih (j + 1) (by omega), st_rws (WOK_at hw (by omega))]
    show _ = (stI ws (j + 1) n k).or (st1 (wat ws j) k)
    cases hs : stI ws (j + 1) n k with
    | some b => rw [Option.some_or, Option.some_or]
    | none =>
      rw [Option.none_or, Option.none_or, kp_F, k1_none (by omega) hs]
      unfold st1
      by_cases c : wcB (wat ws j) k = true
      · rw [if_pos c, if_pos ⟨c, c⟩]
      · rw [if_neg c, if_neg (fun d => c d.1)]
theorem clF_stT {ws : List WR} {p q : Nat} {k : Int} (hw : WSOK ws) (hq : q ≤ ws.length) : ∀ (n j : Nat), j + n = q → st (clF ws [] p q true j n) k = if stI ws j n k = some true then some true else none := by
  intro n
  induction n with
  | zero => exact fun j _ => rfl
  | succ n ih =>
    intro j hj
    rw [clF_succ, st_append, ih (j + 1) (by omega), st_rws (WOK_at hw (by omega)), show stI ws j (n + 1) k = (stI ws (j + 1) n k).or (st1 (wat ws j) k) from rfl]
    cases hs : stI ws (j + 1) n k with
    | some b =>
      cases b with
      | true => rw [if_pos rfl, Option.some_or, Option.some_or, if_pos rfl]
      | false =>
        rw [if_neg (by simp), Option.none_or, Option.some_or, if_neg (show ¬ (some false = some true) by simp)]
        by_cases c : enB (wat ws j) = true
        · rw [kp_E c, k1_grv (by omega) hs, if_neg (by simp)]
        · rw [kp_G (by omega) (Bf c), if_neg (by simp)]
    | none =>
      rw [if_neg (by simp), Option.none_or, Option.none_or]
      by_cases c : enB (wat ws j) = true
      · rw [kp_E c, k1_none (by omega) hs]
        unfold st1
        rw [c]
        by_cases c2 : wcB (wat ws j) k = true
        · rw [if_pos c2, if_pos ⟨c2, c2⟩, if_pos rfl]
        · rw [if_neg c2, if_neg (fun d => c2 d.1), if_neg (by simp)]
      · rw [kp_G (by omega) (Bf c), if_neg (by simp)]
        unfold st1
        rw [Bf c]
        split
        · rw [if_neg (by simp)]
        · rw [if_neg (by simp)]
theorem rowsF_nil {w : WR} {K : Int → Bool} : ∀ (n : Nat) (c : Int), (∀ k, c ≤ k → k < c + n → K k = false) → rowsF w K (-1) c n = [] := by
  intro n
  induction n with
  | zero =>
    intro c _
    rw [rowsF_0, if_pos rfl]
  | succ n ih =>
    intro c h
    rw [rowsF_succ, h c (by omega) (by omega), if_neg (by decide), if_pos rfl]
    exact ih (c + 1) fun k h1 h2 => h k (by omega) (by omega)
theorem cnt_or {P Q : Nat → Prop} [DecidablePred P] [DecidablePred Q] {p n : Nat} (h : ∀ i, p ≤ i → i < p + n → ¬ (P i ∧ Q i)) : cnt (fun i => P i ∨ Q i) p n = cnt P p n + cnt Q p n := by
  induction n generalizing p with
  | zero => rfl
  | succ n ih =>
    have h1 := ih (p := p + 1) (fun i h1 h2 => h i (by omega) (by omega))
    have h2 := h p (Nat.le_refl _) (by omega)
    rw [cnt_succ, cnt_succ, cnt_succ, h1]
    by_cases c : P p
    · rw [if_pos (Or.inl c), if_pos c, if_neg (fun d => h2 ⟨c, d⟩)]
      omega
    · by_cases d : Q p
      · rw [if_pos (Or.inr d), if_neg c, if_pos d]
        omega
      · rw [if_neg (fun e => e.elim c d), if_neg c, if_neg d]
        omega
theorem cnt_one {R : Prop} [Decidable R] {k0 p n : Nat} (h : p ≤ k0 ∧ k0 < p + n) : cnt (fun i => i = k0 ∧ R) p n = if R then 1 else 0 := by
  rw [show n = (k0 - p) + (1 + (n - (k0 - p) - 1)) by omega, cnt_split, cnt_split, cnt_0 (p := p) (fun i h1 h2 d => by omega), cnt_0 (p := p + (k0 - p) + 1) (fun i h1 h2 d => by omega), show p + (k0 - p) = k0 by omega]
  have : cnt (fun i => i = k0 ∧ R) k0 1 = if R then 1 else 0 := by
    rw [cnt_succ]
    show _ + (0 : Int) = _
    by_cases c : R
    · rw [if_pos c, if_pos ⟨rfl, c⟩]
      rfl
    · rw [if_neg c, if_neg (fun d => c d.2)]
      rfl
  rw [this]
  omega
theorem clF_lenT {ws : List WR} {p q : Nat} (hw : WSOK ws) (he : ENT ws) (hq : q ≤ ws.length) : ∀ (n j : Nat), j + n = q → ((clF ws [] p q true j n).length : Int) = cnt (fun k => stI ws j n k = some true) 0 100 := by
  intro n
  induction n with
  | zero =>
    intro j _
    rw [cnt_0 (fun i _ _ d => absurd d (by simp [stI]))]
    rfl
  | succ n ih =>
    intro j hj
    have hwj := WOK_at hw (j := j) (by omega)
    have hwj' := hwj
    unfold WOK at hwj'
    have e1 : ∀ k : Int, stI ws j (n + 1) k = (stI ws (j + 1) n k).or (st1 (wat ws j) k) := fun k => rfl
    rw [clF_succ, List.length_append]
    have h1 := ih (j + 1) (by omega)
    by_cases c : enB (wat ws j) = true
    · have h0 : (wat ws j).2.1 = (wat ws j).2.2.1 := he _ (wat_mem (by omega)) (enB_iff.mp c)
      have h2 : cnt (fun k => stI ws j (n + 1) k = some true) 0 100 = cnt (fun k => stI ws (j + 1) n k = some true ∨ (k = (wat ws j).2.1.toNat ∧ stI ws (j + 1) n (wat ws j).2.1 = none)) 0 100 := by
        refine cnt_c fun k _ hk => ?_
        rw [e1]
        cases hs : stI ws (j + 1) n k with
        | some b =>
          rw [Option.some_or]
          constructor
          · exact Or.inl
          · rintro (d | ⟨d1, d2⟩)
            · exact d
            · rw [show ((wat ws j).2.1) = (k : Int) by omega, hs] at d2
              exact absurd d2 (by simp)
        | none =>
          rw [Option.none_or]
          unfold st1
          constructor
          · intro d
            by_cases c2 : wcB (wat ws j) k = true
            · have := wcB_iff.mp c2
              refine Or.inr ⟨by omega, ?_⟩
              rw [show ((wat ws j).2.1) = (k : Int) by omega, hs]
            · rw [if_neg c2] at d
              exact absurd d (by simp)
          · rintro (d | ⟨d1, d2⟩)
            · exact absurd d (by simp)
            · rw [if_pos (wcB_iff.mpr (by omega)), c]
      rw [h2, cnt_or (fun i _ _ d => by
        have h3 := d.2.2
        rw [show ((wat ws j).2.1) = (i : Int) by omega, d.1] at h3
        exact absurd h3 (by simp)), cnt_one (by omega), ← h1]
      have h4 : (rws (wat ws j) (kpB ws [] p q true j)).length = if stI ws (j + 1) n (wat ws j).2.1 = none then 1 else 0 := by
        unfold rws
        rw [show ((wat ws j).2.2.1 + 1 - (wat ws j).2.1).toNat = 1 by omega, rowsF_succ, kp_E c]
        by_cases d : stI ws (j + 1) n (wat ws j).2.1 = none
        · rw [if_pos d, k1_none (by omega) d, wcB_iff.mpr (by omega), if_pos rfl, if_pos rfl, rowsF_0, if_neg (by omega)]
          rfl
        · rw [if_neg d]
          have h5 : k1B ws [] q j (wat ws j).2.1 = false := by
            cases hs : stI ws (j + 1) n (wat ws j).2.1 with
            | none => exact absurd hs d
            | some b =>
              obtain ⟨i, a1, a2, a3, a4, -⟩ := stI_some hs
              exact k1_ent (by omega) (by omega) c a3
          rw [h5, if_neg (by decide), if_pos rfl, rowsF_0, if_pos rfl]
          rfl
      rw [h4]
      split <;> omega
    · have h2 : cnt (fun k => stI ws j (n + 1) k = some true) 0 100 = cnt (fun k => stI ws (j + 1) n k = some true) 0 100 := by
        refine cnt_c fun k _ hk => ?_
        rw [e1]
        cases hs : stI ws (j + 1) n k with
        | some b => rw [Option.some_or]
        | none =>
          rw [Option.none_or]
          unfold st1
          rw [Bf c]
          constructor
          · intro d
            split at d
            · exact absurd d (by simp)
            · exact d
          · intro d
            exact absurd d (by simp)
      have h4 : rws (wat ws j) (kpB ws [] p q true j) = [] := by
        unfold rws
        exact rowsF_nil _ _ fun k _ _ => kp_G (by omega) (Bf c)
      rw [h2, h4, List.length_nil, ← h1]
      omega
theorem st_take {ws : List WR} {k m : Int} (hn : ∀ w ∈ ws, w.1 ≤ m) (hw : WSOK ws) : ∀ n : Nat, n ≤ ws.length → ((wat ws (nfD ws k m n)).2.2.2 ≠ 0 ↔ st (ws.take n) k = some true) := by
  intro n
  induction n with
  | zero =>
    intro _
    rw [List.take_zero]
    unfold nfD
    rw [wat_out (by omega)]
    constructor
    · intro d
      exact absurd rfl d
    · intro d
      exact absurd d (by simp [st])
  | succ n ih =>
    intro hl
    have h1 := ih (by omega)
    have hm := wat_mem (ws := ws) (j := n) (by omega)
    have h2 := hn _ hm
    have h3 := hw _ hm
    unfold WOK at h3
    rw [List.take_succ_eq_append_getElem (by omega), st_append]
    show _ ↔ ((none : Option Bool).or (st1 ws[n] k)).or (st (ws.take n) k) = some true
    rw [Option.none_or, ← wat_get (by omega)]
    unfold nfD st1
    by_cases c : wcB (wat ws n) k = true
    · have c' := wcB_iff.mp c
      rw [if_pos ⟨h2, c'⟩, if_pos c, Option.some_or]
      constructor
      · intro d
        rw [enB_iff.mpr (by omega)]
      · intro d
        have := enB_iff.mp (Option.some.inj d)
        omega
    · rw [if_neg (fun d => c (wcB_iff.mpr d.2)), if_neg c, Option.none_or]
      exact h1
theorem st_vw {S : SG} {M : Int} (H : SOK S M) (k : Int) : vw S k (-1) ≠ 0 ↔ st S.1 k = some true := by
  unfold vw nfI
  rw [lim_m1]
  have := st_take (k := k) (m := S.2.2.2.1) (fun w hw => (H.2.2.2.1 w hw).2) H.1 S.1.length (Nat.le_refl _)
  rw [List.take_length] at this
  exact this
theorem cl_split {ws : List WR} {p q : Nat} (hp : p ≤ q) : ws = ws.take p ++ (ws.drop p).take (q - p) ++ ws.drop q := by
  have h1 : (ws.drop p).drop (q - p) = ws.drop q := by
    rw [List.drop_drop, show p + (q - p) = q by omega]
  rw [List.append_assoc, ← h1, List.take_append_drop, List.take_append_drop]
theorem st_wcl {ws : List WR} {p q : Nat} {o : Bool} {k : Int} (hw : WSOK ws) (hp : p ≤ q) (hq : q ≤ ws.length) (ho : o = true → p = 0) : st (wcl ws [] p q o) k = some true ↔ st ws k = some true := by
  have h0 : st ws k = (st (ws.drop q) k).or ((stI ws p (q - p) k).or (st (ws.take p) k)) := by
    have h1 := cl_split (ws := ws) hp
    have h2 : st ws k = st (ws.take p ++ (ws.drop p).take (q - p) ++ ws.drop q) k := by rw [← h1]
    rw [h2, st_append, st_append, st_sl _ _ (by omega)]
  rw [h0]
  unfold wcl clL
  rw [st_append, st_append]
  cases o with
  | false => rw [clF_stF hw hq _ _ (by omega)]
  | true =>
    have hp0 := ho rfl
    subst hp0
    rw [clF_stT hw hq _ _ (by omega), List.take_zero, show st ([] : List WR) k = none from rfl, Option.or_none, Option.or_none]
    cases st (ws.drop q) k with
    | some b => rw [Option.some_or, Option.some_or]
    | none =>
      rw [Option.none_or, Option.none_or]
      by_cases c : stI ws 0 (q - 0) k = some true
      · rw [if_pos c, c]
      · rw [if_neg c]
        constructor
        · intro d
          exact absurd d (by simp)
        · intro d
          exact absurd d c
theorem len_all {ws : List WR} (hw : WSOK ws) (he : ENT ws) : ((clL ws [] 0 ws.length true).length : Int) = cnt (fun k => st ws k = some true) 0 100 := by
  unfold clL
  rw [clF_lenT hw he (Nat.le_refl _) _ _ (by omega)]
  refine cnt_c fun k _ _ => ?_
  rw [← st_sl _ _ (by omega), List.drop_zero, Nat.sub_zero, List.take_length]
theorem clL_pos {ws : List WR} {p q : Nat} (hw : WSOK ws) (hp : p < q) (hq : q ≤ ws.length) : 0 < (clL ws [] p q false).length := by
  by_cases c : (clL ws [] p q false).length = 0
  · have h0 : clL ws [] p q false = [] := List.length_eq_zero_iff.mp c
    have hk := WOK_at hw (j := ((q - 1 : Nat) : Int)) (by omega)
    unfold WOK at hk
    have h1 := clF_stF (p := p) (k := (wat ws ((q - 1 : Nat) : Int)).2.1) hw hq (q - p) p (by omega)
    unfold clL at h0
    rw [h0] at h1
    have h2 := stI_none h1.symm (q - 1) (by omega) (by omega)
    have h3 : wcB (wat ws ((q - 1 : Nat) : Int)) (wat ws ((q - 1 : Nat) : Int)).2.1 = true := wcB_iff.mpr (by omega)
    rw [h2] at h3
    exact absurd h3 (by decide)
  · omega
def en (l : List WR) : Nat := (l.filter enB).length
theorem en_app (a b : List WR) : en (a ++ b) = en a + en b := by
  unfold en
  rw [List.filter_append, List.length_append]
theorem en_le (l : List WR) : en l ≤ l.length := List.length_filter_le _ _
theorem cnt_en {ws : List WR} : ∀ (n j : Nat), j + n ≤ ws.length → cnt (fun i => enB (wat ws i) = true) j n = en ((ws.drop j).take n) := by
  intro n
  induction n with
  | zero => exact fun _ _ => rfl
  | succ n ih =>
    intro j hj
    rw [cnt_succ, ih (j + 1) (by omega), List.drop_eq_getElem_cons (i := j) (by omega), List.take_succ_cons, wat_get (by omega)]
    unfold en
    by_cases c : enB ws[j] = true
    · rw [if_pos c, List.filter_cons_of_pos c, List.length_cons]
      omega
    · rw [if_neg c, List.filter_cons_of_neg c]
      omega
theorem en_rws {w : WR} {K : Int → Bool} (hw : WOK w) (he : 0 < w.2.2.2 → w.2.1 = w.2.2.1) : en (rws w K) ≤ if enB w = true then 1 else 0 := by
  by_cases c : enB w = true
  · rw [if_pos c]
    exact Nat.le_trans (en_le _) (rws_len1 hw (he (enB_iff.mp c)))
  · rw [if_neg c]
    unfold en
    rw [List.filter_eq_nil_iff.mpr]
    · exact Nat.le_refl _
    · intro x hx d
      have := (rws_mem hw x hx).2.2
      exact c (enB_iff.mpr (by rw [← this]; exact enB_iff.mp d))
theorem en_clF {ws : List WR} {Y : List Int} {p q : Nat} {o : Bool} (hw : WSOK ws) (he : ENT ws) : ∀ (n j : Nat), j + n ≤ ws.length → (en (clF ws Y p q o j n) : Int) ≤ cnt (fun i => enB (wat ws i) = true) j n := by
  intro n
  induction n with
  | zero => exact fun _ _ => Int.le_refl _
  | succ n ih =>
    intro j hj
    have h1 := ih (j + 1) (by omega)
    have h2 := en_rws (w := wat ws j) (K := kpB ws Y p q o j) (WOK_at hw (by omega)) (he _ (wat_mem (by omega)))
    rw [clF_succ, en_app, cnt_succ]
    split at h2
    · rw [if_pos (by assumption)]
      omega
    · rw [if_neg (by assumption)]
      omega
theorem en_clL {ws : List WR} {Y : List Int} {p : Nat} {o : Bool} (hw : WSOK ws) (he : ENT ws) (hp : p ≤ ws.length) : en (clL ws Y p ws.length o) ≤ en (ws.drop p) := by
  have h1 := en_clF (Y := Y) (p := p) (q := ws.length) (o := o) hw he (ws.length - p) p (by omega)
  rw [cnt_en _ _ (by omega), List.take_of_length_le (by rw [List.length_drop]; omega)] at h1
  unfold clL
  omega
theorem clL_len0 {ws : List WR} {p : Nat} {o : Bool} (hw : WSOK ws) (he : ENT ws) (ho : ORD ws) (hp : p ≤ ws.length) : (clL ws [] p ws.length o).length ≤ en (ws.drop p) + 100 := by
  have h1 := clL_len (Y := []) (o := o) hw he ho hp (Nat.le_refl _)
  rw [cnt_en _ _ (by omega), List.take_of_length_le (by rw [List.length_drop]; omega)] at h1
  rw [List.length_nil] at h1
  omega
theorem en_drop {ws : List WR} {a b : Nat} (h : a ≤ b) : en (ws.drop a) ≤ (b - a) + en (ws.drop b) := by
  have h1 : ws.drop a = (ws.drop a).take (b - a) ++ ws.drop b := by
    have h2 : (ws.drop a).drop (b - a) = ws.drop b := by
      rw [List.drop_drop, show a + (b - a) = b by omega]
    rw [← h2, List.take_append_drop]
  rw [h1, en_app]
  have := en_le ((ws.drop a).take (b - a))
  rw [List.length_take] at this
  omega
def FIT (S : SG) (M : Int) : Prop := SOK S M ∧ S.2.2.1 = [] ∧ S.1.length ≤ 148 ∧ S.2.1.length ≤ 6 ∧ sOf S (-1) = S.1.length ∧ sOf S 0 + en (S.1.drop (sOf S 0).toNat) ≤ 48
theorem FIT_merge {S : SG} {M : Int} (F : FIT S M) (h2 : 2 ≤ S.2.1.length) : (mgK S 0).length ≤ 348 ∧ S.1.length + (mgK S 0).length - (eOf S 0 - sOf S 1) ≤ 148 ∧ (∀ k : Int, st (mgS S 0).1 k = some true ↔ st S.1 k = some true) ∧ (S.2.1.length = 2 → (mgS S 0).2.1.length ≤ 1 ∧ ((mgS S 0).1.length : Int) = cnt (fun k => st S.1 k = some true) 0 100) ∧ (3 ≤ S.2.1.length → (mgS S 0).2.1.length + 1 = S.2.1.length ∧ FIT (mgS S 0) M) := by
  obtain ⟨H, hY, h148, h6, hm, h48⟩ := F
  have hE := H.2.2.2.2.2.2
  obtain ⟨p1, p2, p3, p4, p5, p6, p7⟩ := mg_pre hE (i := 0) (by omega)
  rw [show (0 : Int) + 1 = 1 by omega] at p1 p2 p7
  have he0 : eOf S 0 = S.1.length := by
    rw [p6, ← hm]
    unfold sOf
    congr 1
    omega
  obtain ⟨a, ha⟩ : ∃ a : Nat, sOf S 1 = a := ⟨(sOf S 1).toNat, by omega⟩
  obtain ⟨b, hb⟩ : ∃ b : Nat, sOf S 0 = b := ⟨(sOf S 0).toNat, by omega⟩
  have hK : mgK S 0 = clL S.1 [] a S.1.length (decide ((1 : Int) = S.2.1.length - 1)) := by
    unfold mgK clP
    rw [show (0 : Int) + 1 = 1 by omega, hY, ha, he0]
    rfl
  have hR : (mgS S 0).1 = wcl S.1 [] a S.1.length (decide ((1 : Int) = S.2.1.length - 1)) := by
    unfold mgS rep wcl
    dsimp only
    rw [show clP S 0 (0 + 1) = mgK S 0 from rfl, hK, show (0 : Int) + 1 = 1 by omega, ha, he0]
    rfl
  have hlen := clL_len0 (p := a) (o := decide ((1 : Int) = S.2.1.length - 1)) H.1 H.2.2.1 H.2.1 (by omega)
  rw [← hK] at hlen
  have hen : en (mgK S 0) ≤ en (S.1.drop a) := by
    rw [hK]
    exact en_clL H.1 H.2.2.1 (by omega)
  have hd := en_drop (ws := S.1) (a := a) (b := b) (by omega)
  rw [hb, Int.toNat_natCast] at h48
  have o0 : decide ((1 : Int) = S.2.1.length - 1) = true → a = 0 := by
    intro d
    have d' := of_decide_eq_true d
    have : sOf S 1 = 0 := by
      rw [p7]
      exact iat_out (by omega)
    omega
  have hLR : (mgS S 0).1.length = a + (mgK S 0).length := by
    rw [hR]
    unfold wcl
    rw [← hK, List.length_append, List.length_append, List.length_take, List.length_drop]
    omega
  refine ⟨by omega, by omega, fun k => ?_, fun hr => ?_, fun hr => ?_⟩
  · rw [hR]
    exact st_wcl H.1 (by omega) (Nat.le_refl _) o0
  · have d : decide ((1 : Int) = S.2.1.length - 1) = true := decide_eq_true (by omega)
    have ha0 := o0 d
    constructor
    · unfold mgS
      dsimp only
      have hg : mgG S 0 = 1 ∨ mgG S 0 = 2 := by
        unfold mgG
        split <;> omega
      rw [mgE_len (by omega)]
      omega
    · rw [hLR, hK, d, ha0, ← len_all H.1 H.2.2.1]
      omega
  · have d : decide ((1 : Int) = S.2.1.length - 1) = false := decide_eq_false (by omega)
    have hpos : 0 < (mgK S 0).length := by
      rw [hK, d]
      exact clL_pos H.1 (by omega) (Nat.le_refl _)
    have hg : mgG S 0 = 1 := by
      unfold mgG
      rw [if_pos hpos]
    have hl2 : (mgS S 0).2.1.length + 1 = S.2.1.length := by
      unfold mgS
      dsimp only
      rw [mgE_len (by omega), hg]
      omega
    have hv : mgV S 0 = S.1.length - a - (mgK S 0).length := by
      unfold mgV
      rw [show (0 : Int) + 1 = 1 by omega, he0, ha]
    have s0 : sOf (mgS S 0) 0 = a := by
      have h1 : sOf (mgS S 0) 0 = iat (mgS S 0).2.1 ((mgS S 0).2.1.length - 2 - 0) := rfl
      rw [h1]
      unfold mgS
      dsimp only
      rw [mgE_len (by omega), hg, mgE_at (by omega) (by omega), if_pos (by omega), ← ha, p7]
      congr 1
      omega
    have sm : sOf (mgS S 0) (-1) = (mgS S 0).1.length := by
      rw [hLR]
      have h1 : sOf (mgS S 0) (-1) = iat (mgS S 0).2.1 ((mgS S 0).2.1.length - 2 - -1) := rfl
      rw [h1]
      unfold mgS
      dsimp only
      rw [mgE_len (by omega), hg, mgE_at (by omega) (by omega), if_neg (by omega), hv]
      have h2 : iat S.2.1 (((S.2.1.length - 1 : Nat) : Int) - 2 - -1 + (1 : Nat)) = S.1.length := by
        rw [← he0, p6]
        congr 1
        omega
      rw [h2]
      omega
    refine ⟨hl2, mgS_ok H (by omega), hY, by omega, by omega, sm, ?_⟩
    rw [s0, Int.toNat_natCast, hR]
    unfold wcl
    rw [← hK, List.drop_length, List.append_nil, List.drop_append_of_le_length (by rw [List.length_take]; omega), List.drop_of_length_le (by rw [List.length_take]; omega), List.nil_append]
    omega
theorem FIT_flush {S : SG} {M : Int} (H : SOK S M) (hY : S.2.2.1 = []) (hl : S.1.length ≤ 48 ∧ S.2.1.length ≤ 5) (hm : sOf S (-1) < S.1.length) : (flK S).length ≤ 348 ∧ sOf S (-1) + (flK S).length ≤ 148 ∧ (∀ k : Int, st (flS S).1 k = some true ↔ st S.1 k = some true) ∧ (S.2.1.length = 0 → (flS S).2.1.length ≤ 1 ∧ ((flS S).1.length : Int) = cnt (fun k => st S.1 k = some true) 0 100) ∧ (1 ≤ S.2.1.length → (flS S).2.1.length = S.2.1.length + 1 ∧ FIT (flS S) M) := by
  have hE := H.2.2.2.2.2.2
  have hp := plc hE (i := -1) (by omega)
  have he := eOf_m1 S
  obtain ⟨a, ha⟩ : ∃ a : Nat, sOf S (-1) = a := ⟨(sOf S (-1)).toNat, by omega⟩
  have hK : flK S = clL S.1 [] a S.1.length (decide ((-1 : Int) = S.2.1.length - 1)) := by
    unfold flK clP
    rw [hY, ha, he]
    rfl
  have hR : (flS S).1 = wcl S.1 [] a S.1.length (decide ((-1 : Int) = S.2.1.length - 1)) := by
    unfold flS rep wcl
    dsimp only
    rw [show clP S (-1) (-1) = flK S from rfl, hK, ha, he]
    rfl
  have hlen := clL_len0 (p := a) (o := decide ((-1 : Int) = S.2.1.length - 1)) H.1 H.2.2.1 H.2.1 (by omega)
  rw [← hK] at hlen
  have hen : en (flK S) ≤ en (S.1.drop a) := by
    rw [hK]
    exact en_clL H.1 H.2.2.1 (by omega)
  have hle := en_le (S.1.drop a)
  rw [List.length_drop] at hle
  have o0 : decide ((-1 : Int) = S.2.1.length - 1) = true → a = 0 := by
    intro d
    have d' := of_decide_eq_true d
    have : sOf S (-1) = 0 := iat_out (by omega)
    omega
  have hLR : (flS S).1.length = a + (flK S).length := by
    rw [hR]
    unfold wcl
    rw [← hK, List.length_append, List.length_append, List.length_take, List.length_drop]
    omega
  refine ⟨by omega, by omega, fun k => ?_, fun hr => ?_, fun hr => ?_⟩
  · rw [hR]
    exact st_wcl H.1 (by omega) (Nat.le_refl _) o0
  · have d : decide ((-1 : Int) = S.2.1.length - 1) = true := decide_eq_true (by omega)
    have ha0 := o0 d
    constructor
    · unfold flS
      dsimp only
      split
      · rw [List.length_append, List.length_singleton]
        omega
      · omega
    · rw [hLR, hK, d, ha0, ← len_all H.1 H.2.2.1]
      omega
  · have d : decide ((-1 : Int) = S.2.1.length - 1) = false := decide_eq_false (by omega)
    have hpos : 0 < (flK S).length := by
      rw [hK, d]
      exact clL_pos H.1 (by omega) (Nat.le_refl _)
    have hes : (flS S).2.1 = S.2.1 ++ [sOf S (-1) + (flK S).length] := by
      unfold flS
      dsimp only
      rw [if_pos hpos]
    have hl2 : (flS S).2.1.length = S.2.1.length + 1 := by
      rw [hes, List.length_append, List.length_singleton]
    have s0 : sOf (flS S) 0 = a := by
      have h1 : sOf (flS S) 0 = iat (flS S).2.1 ((flS S).2.1.length - 2 - 0) := rfl
      rw [h1, hl2, hes, show (((S.2.1.length + 1 : Nat) : Int) - 2 - 0) = ((S.2.1.length - 1 : Nat) : Int) by omega, iat_app (by omega), ← ha]
      unfold sOf
      congr 1
      omega
    have sm : sOf (flS S) (-1) = (flS S).1.length := by
      rw [hLR]
      have h1 : sOf (flS S) (-1) = iat (flS S).2.1 ((flS S).2.1.length - 2 - -1) := rfl
      rw [h1, hl2, hes, show (((S.2.1.length + 1 : Nat) : Int) - 2 - -1) = (S.2.1.length : Nat) by omega, iat_last rfl, ha]
      omega
    refine ⟨hl2, flS_ok H, hY, by omega, by omega, sm, ?_⟩
    rw [s0, Int.toNat_natCast, hR]
    unfold wcl
    rw [← hK, List.drop_length, List.append_nil, List.drop_append_of_le_length (by rw [List.length_take]; omega), List.drop_of_length_le (by rw [List.length_take]; omega), List.nil_append]
    omega
theorem few_end {x n : Nat} {h : HP} {A : AB} (e : CLS h x A) {S : SG} (s : STO h (x + 1) (x + 169) 148 S) (hr : S.2.1.length ≤ 1) {j : Int} (hj : 0 ≤ j ∧ j ≤ 5) (hn : 0 < n) : b_X7_fewest_39 x n h (zI j) = some (zI S.1.length, h) := by
  obtain ⟨n, rfl⟩ : ∃ k, n = k + 1 := ⟨n - 1, by omega⟩
  unfold b_X7_fewest_39 c_X7_fewest_39 b_X7_fewest_70
  rw [show (5 : Int32) = zI 5 by decide, if_neg (fun d => absurd ((zI_lt (by omega)).mp d) (by omega)), (CLS_g e).2.2.2.1, Option.bind_some, X3_runs_is s, Option.bind_some, zl1, if_pos ((zI_le (by omega)).mpr (by omega)), Option.bind_some, X3_size_is s, Option.bind_some]
theorem C_fewL {x : Nat} {A : AB} {M : Int} {h0 : HP} : ∀ (r n : Nat) (h : HP) (j : Int) (S : SG), r + 1 < n → 0 ≤ j → j + r ≤ 4 → 2 ≤ S.2.1.length → S.2.1.length ≤ r + 2 → CLS h x A → STO h (x + 1) (x + 169) 148 S → FIT S M → OFF x 311 h0 h → WP (b_X7_fewest_39 x n h (zI j)) (fun r' => r'.1 = zI (cnt (fun k => st S.1 k = some true) 0 100) ∧ CLS r'.2 x A ∧ OFF x 311 h0 r'.2) := by
  intro r
  induction r with
  | zero =>
    intro n h j S hn hj hjr h2 hr e s F o
    obtain ⟨n, rfl⟩ : ∃ k, n = k + 1 := ⟨n - 1, by omega⟩
    obtain ⟨m1, m2, m3, m4, m5⟩ := FIT_merge F h2
    obtain ⟨H, hY, h148, h6, -⟩ := F
    unfold b_X7_fewest_39 c_X7_fewest_39
    simp only [show (5 : Int32) = zI 5 by decide, zl0, zl1, zI_add]
    refine wf (fun d => absurd ((zI_lt (by omega)).mp d) (by omega)) ?_
    refine wb (CLS_g e).2.2.2.1 ?_
    refine wb (X3_runs_is s) ?_
    refine wf (fun d => absurd ((zI_le (by omega)).mp d) (by omega)) ?_
    refine wb (CLS_g e).2.2.2.1 ?_
    refine wpb (X3_mergeRuns_is e.2.1 s H ⟨h148, h6⟩ (by omega) (i := 0) (by omega) m1 m2) ?_
    rintro ⟨y, h1⟩ ⟨q1, q2, q3, q4⟩
    dsimp only at q1 q2 q3 q4 ⊢
    have e1 := CLS_tr e q4 q3 q2
    obtain ⟨m6, m7⟩ := m4 (by omega)
    refine weq (few_end e1 q2 m6 (by omega) (by omega)) ⟨?_, e1, OFF_trans o (fun b hb => q4 b (by omega) (by omega))⟩
    rw [m7]
  | succ r ih =>
    intro n h j S hn hj hjr h2 hr e s F o
    obtain ⟨n, rfl⟩ : ∃ k, n = k + 1 := ⟨n - 1, by omega⟩
    obtain ⟨m1, m2, m3, m4, m5⟩ := FIT_merge F h2
    obtain ⟨H, hY, h148, h6, -⟩ := F
    unfold b_X7_fewest_39 c_X7_fewest_39
    simp only [show (5 : Int32) = zI 5 by decide, zl0, zl1, zI_add]
    refine wf (fun d => absurd ((zI_lt (by omega)).mp d) (by omega)) ?_
    refine wb (CLS_g e).2.2.2.1 ?_
    refine wb (X3_runs_is s) ?_
    refine wf (fun d => absurd ((zI_le (by omega)).mp d) (by omega)) ?_
    refine wb (CLS_g e).2.2.2.1 ?_
    refine wpb (X3_mergeRuns_is e.2.1 s H ⟨h148, h6⟩ (by omega) (i := 0) (by omega) m1 m2) ?_
    rintro ⟨y, h1⟩ ⟨q1, q2, q3, q4⟩
    dsimp only at q1 q2 q3 q4 ⊢
    have e1 := CLS_tr e q4 q3 q2
    have o1 : OFF x 311 h0 h1 := OFF_trans o (fun b hb => q4 b (by omega) (by omega))
    by_cases c : S.2.1.length = 2
    · obtain ⟨m6, m7⟩ := m4 c
      refine weq (few_end e1 q2 m6 (by omega) (by omega)) ⟨?_, e1, o1⟩
      rw [m7]
    · obtain ⟨m8, m9⟩ := m5 (by omega)
      have := ih n h1 (j + 1) _ (by omega) (by omega) (by omega) (by omega) (by omega) e1 q2 m9 o1
      rw [cnt_c (fun k _ _ => m3 k)] at this
      exact this
