/-! fewest -/
theorem st_take {ws : List WR} {k m : Int} (hn : ∀ w ∈ ws, w.1 ≤ m) (hw : WSOK ws) : ∀ n : Nat, n ≤ ws.length → ((wat ws (nfD ws k m n)).2.2.2 ≠ 0 ↔ st (ws.take n) k = some true) := by
  intro n
  induction n with
  | zero =>
    intro _
    rw [List.take_zero]
    unfold nfD
    rw [wat_out (by omega)]
    constructor
    · intro d
      exact absurd rfl d
    · intro d
      exact absurd d (by simp [st])
  | succ n ih =>
    intro hl
    have h1 := ih (by omega)
    have hm := wat_mem (ws := ws) (j := n) (by omega)
    have h2 := hn _ hm
    have h3 := hw _ hm
    unfold WOK at h3
    rw [List.take_succ_eq_append_getElem (by omega), st_append]
    show _ ↔ ((none : Option Bool).or (st1 ws[n] k)).or (st (ws.take n) k) = some true
    rw [Option.none_or, ← wat_get (by omega)]
    unfold nfD st1
    by_cases c : wcB (wat ws n) k = true
    · have c' := wcB_iff.mp c
      rw [if_pos ⟨h2, c'⟩, if_pos c, Option.some_or]
      constructor
      · intro d
        rw [enB_iff.mpr (by omega)]
      · intro d
        have := enB_iff.mp (Option.some.inj d)
        omega
    · rw [if_neg (fun d => c (wcB_iff.mpr d.2)), if_neg c, Option.none_or]
      exact h1
theorem st_vw {S : SG} {M : Int} (H : SOK S M) (k : Int) : vw S k (-1) ≠ 0 ↔ st S.1 k = some true := by
  unfold vw nfI
  rw [lim_m1]
  have := st_take (k := k) (m := S.2.2.2.1) (fun w hw => (H.2.2.2.1 w hw).2) H.1 S.1.length (Nat.le_refl _)
  rw [List.take_length] at this
  exact this
theorem cl_split {ws : List WR} {p q : Nat} (hp : p ≤ q) : ws = ws.take p ++ (ws.drop p).take (q - p) ++ ws.drop q := by
  have h1 : (ws.drop p).drop (q - p) = ws.drop q := by
    rw [List.drop_drop, show p + (q - p) = q by omega]
  rw [List.append_assoc, ← h1, List.take_append_drop, List.take_append_drop]
/-- what is seen stays -/
theorem st_wcl {ws : List WR} {p q : Nat} {o : Bool} {k : Int} (hw : WSOK ws) (hp : p ≤ q) (hq : q ≤ ws.length) (ho : o = true → p = 0) : st (wcl ws [] p q o) k = some true ↔ st ws k = some true := by
  have h0 : st ws k = (st (ws.drop q) k).or ((stI ws p (q - p) k).or (st (ws.take p) k)) := by
    have h1 := cl_split (ws := ws) hp
    have h2 : st ws k = st (ws.take p ++ (ws.drop p).take (q - p) ++ ws.drop q) k := by rw [← h1]
    rw [h2, st_append, st_append, st_sl _ _ (by omega)]
  rw [h0]
  unfold wcl clL
  rw [st_append, st_append]
  cases o with
  | false => rw [clF_stF hw hq _ _ (by omega)]
  | true =>
    have hp0 := ho rfl
    subst hp0
    rw [clF_stT hw hq _ _ (by omega), List.take_zero, show st ([] : List WR) k = none from rfl, Option.or_none, Option.or_none]
    cases st (ws.drop q) k with
    | some b => rw [Option.some_or, Option.some_or]
    | none =>
      rw [Option.none_or, Option.none_or]
      by_cases c : stI ws 0 (q - 0) k = some true
      · rw [if_pos c, c]
      · rw [if_neg c]
        constructor
        · intro d
          exact absurd d (by simp)
        · intro d
          exact absurd d c
/-- all is cleaned: what is left is what is seen -/
theorem len_all {ws : List WR} (hw : WSOK ws) (he : ENT ws) : ((clL ws [] 0 ws.length true).length : Int) = cnt (fun k => st ws k = some true) 0 100 := by
  unfold clL
  rw [clF_lenT hw he (Nat.le_refl _) _ _ (by omega)]
  refine cnt_c fun k _ _ => ?_
  rw [← st_sl _ _ (by omega), List.drop_zero, Nat.sub_zero, List.take_length]
/-- where something is older, something is left -/
theorem clL_pos {ws : List WR} {p q : Nat} (hw : WSOK ws) (hp : p < q) (hq : q ≤ ws.length) : 0 < (clL ws [] p q false).length := by
  by_cases c : (clL ws [] p q false).length = 0
  · have h0 : clL ws [] p q false = [] := List.length_eq_zero_iff.mp c
    have hk := WOK_at hw (j := ((q - 1 : Nat) : Int)) (by omega)
    unfold WOK at hk
    have h1 := clF_stF (p := p) (k := (wat ws ((q - 1 : Nat) : Int)).2.1) hw hq (q - p) p (by omega)
    unfold clL at h0
    rw [h0] at h1
    have h2 := stI_none h1.symm (q - 1) (by omega) (by omega)
    have h3 : wcB (wat ws ((q - 1 : Nat) : Int)) (wat ws ((q - 1 : Nat) : Int)).2.1 = true := wcB_iff.mpr (by omega)
    rw [h2] at h3
    exact absurd h3 (by decide)
  · omega
/-- how many entries -/
def en (l : List WR) : Nat := (l.filter enB).length
theorem en_app (a b : List WR) : en (a ++ b) = en a + en b := by
  unfold en
  rw [List.filter_append, List.length_append]
theorem en_le (l : List WR) : en l ≤ l.length := List.length_filter_le _ _
theorem cnt_en {ws : List WR} : ∀ (n j : Nat), j + n ≤ ws.length → cnt (fun i => enB (wat ws i) = true) j n = en ((ws.drop j).take n) := by
  intro n
  induction n with
  | zero => exact fun _ _ => rfl
  | succ n ih =>
    intro j hj
    rw [cnt_succ, ih (j + 1) (by omega), List.drop_eq_getElem_cons (i := j) (by omega), List.take_succ_cons, wat_get (by omega)]
    unfold en
    by_cases c : enB ws[j] = true
    · rw [if_pos c, List.filter_cons_of_pos c, List.length_cons]
      omega
    · rw [if_neg c, List.filter_cons_of_neg c]
      omega
theorem en_rws {w : WR} {K : Int → Bool} (hw : WOK w) (he : 0 < w.2.2.2 → w.2.1 = w.2.2.1) : en (rws w K) ≤ if enB w = true then 1 else 0 := by
  by_cases c : enB w = true
  · rw [if_pos c]
    exact Nat.le_trans (en_le _) (rws_len1 hw (he (enB_iff.mp c)))
  · rw [if_neg c]
    unfold en
    rw [List.filter_eq_nil_iff.mpr]
    · exact Nat.le_refl _
    · intro x hx d
      have := (rws_mem hw x hx).2.2
      exact c (enB_iff.mpr (by rw [← this]; exact enB_iff.mp d))
theorem en_clF {ws : List WR} {Y : List Int} {p q : Nat} {o : Bool} (hw : WSOK ws) (he : ENT ws) : ∀ (n j : Nat), j + n ≤ ws.length → (en (clF ws Y p q o j n) : Int) ≤ cnt (fun i => enB (wat ws i) = true) j n := by
  intro n
  induction n with
  | zero => exact fun _ _ => Int.le_refl _
  | succ n ih =>
    intro j hj
    have h1 := ih (j + 1) (by omega)
    have h2 := en_rws (w := wat ws j) (K := kpB ws Y p q o j) (WOK_at hw (by omega)) (he _ (wat_mem (by omega)))
    rw [clF_succ, en_app, cnt_succ]
    split at h2
    · rw [if_pos (by assumption)]
      omega
    · rw [if_neg (by assumption)]
      omega
theorem en_clL {ws : List WR} {Y : List Int} {p : Nat} {o : Bool} (hw : WSOK ws) (he : ENT ws) (hp : p ≤ ws.length) : en (clL ws Y p ws.length o) ≤ en (ws.drop p) := by
  have h1 := en_clF (Y := Y) (p := p) (q := ws.length) (o := o) hw he (ws.length - p) p (by omega)
  rw [cnt_en _ _ (by omega), List.take_of_length_le (by rw [List.length_drop]; omega)] at h1
  unfold clL
  omega
theorem clL_len0 {ws : List WR} {p : Nat} {o : Bool} (hw : WSOK ws) (he : ENT ws) (ho : ORD ws) (hp : p ≤ ws.length) : (clL ws [] p ws.length o).length ≤ en (ws.drop p) + 100 := by
  have h1 := clL_len (Y := []) (o := o) hw he ho hp (Nat.le_refl _)
  rw [cnt_en _ _ (by omega), List.take_of_length_le (by rw [List.length_drop]; omega)] at h1
  rw [List.length_nil] at h1
  omega
theorem en_drop {ws : List WR} {a b : Nat} (h : a ≤ b) : en (ws.drop a) ≤ (b - a) + en (ws.drop b) := by
  have h1 : ws.drop a = (ws.drop a).take (b - a) ++ ws.drop b := by
    have h2 : (ws.drop a).drop (b - a) = ws.drop b := by
      rw [List.drop_drop, show a + (b - a) = b by omega]
    rw [← h2, List.take_append_drop]
  rw [h1, en_app]
  have := en_le ((ws.drop a).take (b - a))
  rw [List.length_take] at this
  omega
/-! merging all -/
/-- no eyes, no memory, and it all fits -/
def FIT (S : SG) (M : Int) : Prop := SOK S M ∧ S.2.2.1 = [] ∧ S.1.length ≤ 148 ∧ S.2.1.length ≤ 6 ∧ sOf S (-1) = S.1.length ∧ sOf S 0 + en (S.1.drop (sOf S 0).toNat) ≤ 48
theorem FIT_merge {S : SG} {M : Int} (F : FIT S M) (h2 : 2 ≤ S.2.1.length) : (mgK S 0).length ≤ 348 ∧ S.1.length + (mgK S 0).length - (eOf S 0 - sOf S 1) ≤ 148 ∧ (∀ k : Int, st (mgS S 0).1 k = some true ↔ st S.1 k = some true) ∧ (S.2.1.length = 2 → (mgS S 0).2.1.length ≤ 1 ∧ ((mgS S 0).1.length : Int) = cnt (fun k => st S.1 k = some true) 0 100) ∧ (3 ≤ S.2.1.length → (mgS S 0).2.1.length + 1 = S.2.1.length ∧ FIT (mgS S 0) M) := by
  obtain ⟨H, hY, h148, h6, hm, h48⟩ := F
  have hE := H.2.2.2.2.2.2
  obtain ⟨p1, p2, p3, p4, p5, p6, p7⟩ := mg_pre hE (i := 0) (by omega)
  rw [show (0 : Int) + 1 = 1 by omega] at p1 p2 p7
  have he0 : eOf S 0 = S.1.length := by
    rw [p6, ← hm]
    unfold sOf
    congr 1
    omega
  obtain ⟨a, ha⟩ : ∃ a : Nat, sOf S 1 = a := ⟨(sOf S 1).toNat, by omega⟩
  obtain ⟨b, hb⟩ : ∃ b : Nat, sOf S 0 = b := ⟨(sOf S 0).toNat, by omega⟩
  have hK : mgK S 0 = clL S.1 [] a S.1.length (decide ((1 : Int) = S.2.1.length - 1)) := by
    unfold mgK clP
    rw [show (0 : Int) + 1 = 1 by omega, hY, ha, he0]
    rfl
  have hR : (mgS S 0).1 = wcl S.1 [] a S.1.length (decide ((1 : Int) = S.2.1.length - 1)) := by
    unfold mgS rep wcl
    dsimp only
    rw [show clP S 0 (0 + 1) = mgK S 0 from rfl, hK, show (0 : Int) + 1 = 1 by omega, ha, he0]
    rfl
  have hlen := clL_len0 (p := a) (o := decide ((1 : Int) = S.2.1.length - 1)) H.1 H.2.2.1 H.2.1 (by omega)
  rw [← hK] at hlen
  have hen : en (mgK S 0) ≤ en (S.1.drop a) := by
    rw [hK]
    exact en_clL H.1 H.2.2.1 (by omega)
  have hd := en_drop (ws := S.1) (a := a) (b := b) (by omega)
  rw [hb, Int.toNat_natCast] at h48
  have o0 : decide ((1 : Int) = S.2.1.length - 1) = true → a = 0 := by
    intro d
    have d' := of_decide_eq_true d
    have : sOf S 1 = 0 := by
      rw [p7]
      exact iat_out (by omega)
    omega
  have hLR : (mgS S 0).1.length = a + (mgK S 0).length := by
    rw [hR]
    unfold wcl
    rw [← hK, List.length_append, List.length_append, List.length_take, List.length_drop]
    omega
  refine ⟨by omega, by omega, fun k => ?_, fun hr => ?_, fun hr => ?_⟩
  · rw [hR]
    exact st_wcl H.1 (by omega) (Nat.le_refl _) o0
  · have d : decide ((1 : Int) = S.2.1.length - 1) = true := decide_eq_true (by omega)
    have ha0 := o0 d
    constructor
    · unfold mgS
      dsimp only
      have hg : mgG S 0 = 1 ∨ mgG S 0 = 2 := by
        unfold mgG
        split <;> omega
      rw [mgE_len (by omega)]
      omega
    · rw [hLR, hK, d, ha0, ← len_all H.1 H.2.2.1]
      omega
  · have d : decide ((1 : Int) = S.2.1.length - 1) = false := decide_eq_false (by omega)
    have hpos : 0 < (mgK S 0).length := by
      rw [hK, d]
      exact clL_pos H.1 (by omega) (Nat.le_refl _)
    have hg : mgG S 0 = 1 := by
      unfold mgG
      rw [if_pos hpos]
    have hl2 : (mgS S 0).2.1.length + 1 = S.2.1.length := by
      unfold mgS
      dsimp only
      rw [mgE_len (by omega), hg]
      omega
    have hv : mgV S 0 = S.1.length - a - (mgK S 0).length := by
      unfold mgV
      rw [show (0 : Int) + 1 = 1 by omega, he0, ha]
    have s0 : sOf (mgS S 0) 0 = a := by
      have h1 : sOf (mgS S 0) 0 = iat (mgS S 0).2.1 ((mgS S 0).2.1.length - 2 - 0) := rfl
      rw [h1]
      unfold mgS
      dsimp only
      rw [mgE_len (by omega), hg, mgE_at (by omega) (by omega), if_pos (by omega), ← ha, p7]
      congr 1
      omega
    have sm : sOf (mgS S 0) (-1) = (mgS S 0).1.length := by
      rw [hLR]
      have h1 : sOf (mgS S 0) (-1) = iat (mgS S 0).2.1 ((mgS S 0).2.1.length - 2 - -1) := rfl
      rw [h1]
      unfold mgS
      dsimp only
      rw [mgE_len (by omega), hg, mgE_at (by omega) (by omega), if_neg (by omega), hv]
      have h2 : iat S.2.1 (((S.2.1.length - 1 : Nat) : Int) - 2 - -1 + (1 : Nat)) = S.1.length := by
        rw [← he0, p6]
        congr 1
        omega
      rw [h2]
      omega
    refine ⟨hl2, mgS_ok H (by omega), hY, by omega, by omega, sm, ?_⟩
    rw [s0, Int.toNat_natCast, hR]
    unfold wcl
    rw [← hK, List.drop_length, List.append_nil, List.drop_append_of_le_length (by rw [List.length_take]; omega), List.drop_of_length_le (by rw [List.length_take]; omega), List.nil_append]
    omega
