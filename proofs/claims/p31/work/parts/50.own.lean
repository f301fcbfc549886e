/-! what a view sees, on lists; cleaning keeps it -/
def svA1 (w : WR) (k m : Int) : Option Int := if w.1 ≤ m ∧ wcB w k = true then some w.2.2.2 else none
/-- the value of the newest write, up to number m, that concerns key k -/
def svA : List WR → Int → Int → Option Int
  | [], _, _ => none
  | w :: l, k, m => (svA l k m).or (svA1 w k m)
def svAI (ws : List WR) (j : Nat) : Nat → Int → Int → Option Int
  | 0, _, _ => none
  | n + 1, k, m => (svAI ws (j + 1) n k m).or (svA1 (wat ws j) k m)
theorem svAI_succ (ws : List WR) (j n : Nat) (k m : Int) : svAI ws j (n + 1) k m = (svAI ws (j + 1) n k m).or (svA1 (wat ws j) k m) := rfl
theorem svA_append (a b : List WR) (k m : Int) : svA (a ++ b) k m = (svA b k m).or (svA a k m) := by
  induction a with
  | nil =>
    show svA b k m = (svA b k m).or none
    rw [Option.or_none]
  | cons w a ih =>
    show (svA (a ++ b) k m).or (svA1 w k m) = (svA b k m).or ((svA a k m).or (svA1 w k m))
    rw [ih, Option.or_assoc]
theorem svA_sl {ws : List WR} {k m : Int} : ∀ (n j : Nat), j + n ≤ ws.length → svA ((ws.drop j).take n) k m = svAI ws j n k m := by
  intro n
  induction n with
  | zero =>
    intro j hj
    rw [List.take_zero]
    rfl
  | succ n ih =>
    intro j hj
    rw [List.drop_eq_getElem_cons (by omega), List.take_succ_cons]
    show (svA ((ws.drop (j + 1)).take n) k m).or (svA1 ws[j] k m) = (svAI ws (j + 1) n k m).or (svA1 (wat ws j) k m)
    rw [ih (j + 1) (by omega), wat_get (by omega)]
theorem svA_pce {w : WR} {k m : Int} : ∀ (l : List WR), (∀ x ∈ l, PCE w x) → svA l k m = if w.1 ≤ m then (st l k).map (fun _ => w.2.2.2) else none := by
  intro l
  induction l with
  | nil =>
    intro _
    show (none : Option Int) = if w.1 ≤ m then (none : Option Bool).map (fun _ => w.2.2.2) else none
    split <;> rfl
  | cons x l ih =>
    intro h
    have hx := h x List.mem_cons_self
    have hl := ih (fun y hy => h y (List.mem_cons_of_mem _ hy))
    show (svA l k m).or (svA1 x k m) = if w.1 ≤ m then ((st l k).or (st1 x k)).map (fun _ => w.2.2.2) else none
    rw [hl]
    unfold svA1 st1
    rw [hx.1, hx.2.2]
    by_cases c : w.1 ≤ m
    · rw [if_pos c, if_pos c]
      by_cases d : wcB x k = true
      · rw [if_pos ⟨c, d⟩, if_pos d]
        cases st l k <;> rfl
      · rw [if_neg (fun e => d e.2), if_neg d]
        cases st l k <;> rfl
    · rw [if_neg c, if_neg c, if_neg (fun e => c e.1)]
      rfl
theorem svA_rws {w : WR} (hw : WOK w) (K : Int → Bool) (k m : Int) : svA (rws w K) k m = if w.1 ≤ m ∧ wcB w k = true ∧ K k = true then some w.2.2.2 else none := by
  rw [svA_pce _ (rws_mem hw), st_rws hw]
  by_cases c : w.1 ≤ m
  · rw [if_pos c]
    by_cases d : wcB w k = true ∧ K k = true
    · rw [if_pos d, if_pos ⟨c, d⟩]
      rfl
    · rw [if_neg d, if_neg (fun e => d e.2)]
      rfl
  · rw [if_neg c, if_neg (fun e => c e.1)]
/-- a limit parts the writes: what is behind it and what is not have other numbers of eyes before them -/
def PRT (ws : List WR) (Y : List Int) (m : Int) : Prop := ∀ i j : Nat, i < ws.length → j < ws.length → (wat ws i).1 ≤ m → m < (wat ws j).1 → eB Y (wat ws j).1 ≠ eB Y (wat ws i).1
theorem PRT_eye {ws : List WR} {Y : List Int} {x : Nat} (hx : x < Y.length) : PRT ws Y (iat Y x) := by
  intro i j hi hj h1 h2
  refine (part_iff Y (by omega)).mp (exB_iff.mpr ⟨x, by omega, by omega, ?_⟩)
  rw [Bool.and_eq_true, decide_eq_true_eq, decide_eq_true_eq]
  exact ⟨h1, h2⟩
theorem PRT_now {ws : List WR} {Y : List Int} {m : Int} (hn : NUM ws m) : PRT ws Y m := by
  intro i j hi hj h1 h2
  have := (hn _ (wat_mem (ws := ws) (j := j) (by omega))).2
  omega
theorem PRT_lim {S : SG} (hn : NUM S.1 S.2.2.2.1) (x : Int) : PRT S.1 S.2.2.1 (lim S x) := by
  unfold lim
  by_cases c : 0 ≤ x ∧ x < S.2.2.1.length
  · rw [if_pos c]
    have := PRT_eye (ws := S.1) (Y := S.2.2.1) (x := x.toNat) (by omega)
    rw [show ((x.toNat : Nat) : Int) = x by omega] at this
    exact this
  · rw [if_neg c]
    exact PRT_now hn
theorem svAI_none {ws : List WR} {k m : Int} : ∀ {n j : Nat}, svAI ws j n k m = none → ∀ i, j ≤ i → i < j + n → ¬ ((wat ws i).1 ≤ m ∧ wcB (wat ws i) k = true) := by
  intro n
  induction n with
  | zero =>
    intro j _ i h1 h2
    omega
  | succ n ih =>
    intro j h i h1 h2
    rw [svAI_succ] at h
    cases hs : svAI ws (j + 1) n k m with
    | some v =>
      rw [hs] at h
      cases h
    | none =>
      rw [hs, Option.none_or] at h
      by_cases c : i = j
      · subst c
        intro d
        unfold svA1 at h
        rw [if_pos d] at h
        cases h
      · exact ih hs i (by omega) (by omega)
theorem k1_free {ws : List WR} {Y : List Int} {q j n : Nat} {k m : Int} (hP : PRT ws Y m) (hq : q ≤ ws.length) (hj : j + 1 + n = q) (hm : (wat ws j).1 ≤ m) (hc : wcB (wat ws j) k = true) (hn : svAI ws (j + 1) n k m = none) : k1B ws Y q j k = true := by
  unfold k1B
  rw [hc, exB_0]
  · rfl
  · intro i h1 h2
    have hno := svAI_none hn i h1 (by omega)
    unfold hidB
    by_cases c : wcB (wat ws i) k = true
    · have hm2 : m < (wat ws i).1 := by
        by_cases d : (wat ws i).1 ≤ m
        · exact absurd ⟨d, c⟩ hno
        · omega
      have := hP j i (by omega) (by omega) hm hm2
      rw [decide_eq_false this]
      rfl
    · rw [Bool.not_eq_true] at c
      rw [c, Bool.and_false]
      rfl
theorem kpB_F (ws : List WR) (Y : List Int) (p q j : Nat) (k : Int) : kpB ws Y p q false j k = k1B ws Y q j k := by
  unfold kpB
  simp
theorem kpB_T (ws : List WR) (Y : List Int) (p q j : Nat) (k : Int) : kpB ws Y p q true j k = (k1B ws Y q j k && (enB (wat ws j) || exB (fun i => enB (wat ws i) && k1B ws Y q i k) p (j - p))) := by
  unfold kpB
  simp
theorem clF_svF {ws : List WR} {Y : List Int} {p q : Nat} {k m : Int} (hw : WSOK ws) (hP : PRT ws Y m) (hq : q ≤ ws.length) : ∀ (n j : Nat), j + n = q → svA (clF ws Y p q false j n) k m = svAI ws j n k m := by
  intro n
  induction n with
  | zero => exact fun j _ => rfl
  | succ n ih =>
    intro j hj
    rw [clF_succ, svA_append, ih (j + 1) (by omega), svAI_succ]
    cases hs : svAI ws (j + 1) n k m with
    | some v => rfl
    | none =>
      rw [Option.none_or, Option.none_or, svA_rws (WOK_at hw (by omega))]
      unfold svA1
      by_cases c : (wat ws j).1 ≤ m ∧ wcB (wat ws j) k = true
      · have h1 := k1_free hP hq (by omega) c.1 c.2 hs
        rw [if_pos c, if_pos ⟨c.1, c.2, by rw [kpB_F]; exact h1⟩]
      · rw [if_neg c, if_neg (fun d => c ⟨d.1, d.2.1⟩)]
theorem clF_svT {ws : List WR} {Y : List Int} {p q : Nat} {k m : Int} (hw : WSOK ws) (hP : PRT ws Y m) (hq : q ≤ ws.length) : ∀ (n j : Nat), j + n = q → p ≤ j →
    (svAI ws j n k m = none → svA (clF ws Y p q true j n) k m = none) ∧
    ∀ v, svAI ws j n k m = some v → svA (clF ws Y p q true j n) k m = some v ∨ (v = 0 ∧ svA (clF ws Y p q true j n) k m = none ∧ ∀ i, p ≤ i → i < j → enB (wat ws i) = true → k1B ws Y q i k = false) := by
  intro n
  induction n with
  | zero => exact fun j _ _ => ⟨fun _ => rfl, fun v h => (by cases h)⟩
  | succ n ih =>
    intro j hj hpj
    obtain ⟨h1, h2⟩ := ih (j + 1) (by omega) (by omega)
    have hW := WOK_at hw (j := j) (by omega)
    rw [clF_succ, svA_append, svAI_succ, svA_rws hW]
    cases hs : svAI ws (j + 1) n k m with
    | none =>
      rw [h1 hs, Option.none_or, Option.none_or]
      unfold svA1
      by_cases c : (wat ws j).1 ≤ m ∧ wcB (wat ws j) k = true
      · have hk := k1_free hP hq (by omega) c.1 c.2 hs
        rw [if_pos c]
        refine ⟨fun h => (by cases h), fun v hv => ?_⟩
        cases hv
        by_cases e : kpB ws Y p q true j k = true
        · exact Or.inl (if_pos ⟨c.1, c.2, e⟩)
        · refine Or.inr ?_
          rw [kpB_T, hk, Bool.true_and, Bool.or_eq_true] at e
          have e1 : ¬ enB (wat ws j) = true := fun z => e (Or.inl z)
          have e2 : ¬ exB (fun i => enB (wat ws i) && k1B ws Y q i k) p (j - p) = true := fun z => e (Or.inr z)
          refine ⟨?_, if_neg (fun d => ?_), fun i hi hij he => ?_⟩
          · have h0 : ¬ 0 < (wat ws j).2.2.2 := fun z => e1 (enB_iff.mpr z)
            have := hW.2.2.1
            omega
          · have h3 := d.2.2
            rw [kpB_T, hk, Bool.true_and, Bool.or_eq_true] at h3
            exact e h3
          · by_cases z : k1B ws Y q i k = true
            · exact absurd (exB_iff.mpr ⟨i, hi, by omega, by rw [he, z]; rfl⟩) e2
            · exact Bool.not_eq_true _ ▸ z
      · rw [if_neg c, if_neg (fun d => c ⟨d.1, d.2.1⟩)]
        exact ⟨fun _ => rfl, fun v h => (by cases h)⟩
    | some v =>
      refine ⟨fun h => (by cases h), fun v' hv => ?_⟩
      cases hv
      rcases h2 v hs with h3 | ⟨h3, h4, h5⟩
      · rw [h3]
        exact Or.inl rfl
      · refine Or.inr ⟨h3, ?_, fun i hi hij => h5 i hi (by omega)⟩
        rw [h4, Option.none_or]
        refine if_neg (fun d => ?_)
        have h6 := d.2.2
        rw [kpB_T, Bool.and_eq_true, Bool.or_eq_true] at h6
        rcases h6.2 with z | z
        · rw [h5 j hpj (by omega) z] at h6
          exact absurd h6.1 (by decide)
        · obtain ⟨i, i1, i2, i3⟩ := exB_iff.mp z
          rw [Bool.and_eq_true] at i3
          rw [h5 i i1 (by omega) i3.1] at i3
          exact absurd i3.2 (by decide)
/-- cleaning changes nothing of what a view sees -/
theorem svA_wcl {ws : List WR} {Y : List Int} {p q : Nat} {o : Bool} {k m : Int} (hw : WSOK ws) (hP : PRT ws Y m) (hp : p ≤ q) (hq : q ≤ ws.length) (ho : o = true → p = 0) : (svA (wcl ws Y p q o) k m).getD 0 = (svA ws k m).getD 0 := by
  have e : svA ws k m = (svA (ws.drop q) k m).or ((svAI ws p (q - p) k m).or (svA (ws.take p) k m)) := by
    rw [← svA_sl (q - p) p (by omega), ← svA_append, ← svA_append]
    congr 1
    exact cl_split hp
  unfold wcl
  rw [e, svA_append, svA_append]
  cases svA (ws.drop q) k m with
  | some v => rfl
  | none =>
    rw [Option.none_or, Option.none_or]
    unfold clL
    cases o with
    | false => rw [clF_svF hw hP hq (q - p) p (by omega)]
    | true =>
      have hp0 := ho rfl
      subst hp0
      rw [List.take_zero, show svA [] k m = none from rfl, Option.or_none, Option.or_none]
      obtain ⟨h1, h2⟩ := clF_svT (k := k) (m := m) (p := 0) hw hP hq (q - 0) 0 (by omega) (by omega)
      cases hs : svAI ws 0 (q - 0) k m with
      | none => rw [h1 hs]
      | some v =>
        rcases h2 v hs with h3 | ⟨h3, h4, -⟩
        · rw [h3]
        · rw [h4, h3]
          rfl
theorem svA_nf {ws : List WR} {k m : Int} : ∀ n : Nat, n ≤ ws.length → (wat ws (nfD ws k m n)).2.2.2 = (svA (ws.take n) k m).getD 0 := by
  intro n
  induction n with
  | zero =>
    intro _
    rw [List.take_zero]
    rfl
  | succ n ih =>
    intro hn
    rw [nfD_succ, List.take_succ_eq_append_getElem (by omega), svA_append]
    have h1 : svA [ws[n]] k m = svA1 ws[n] k m := by
      show (none : Option Int).or (svA1 ws[n] k m) = _
      rw [Option.none_or]
    rw [h1, ← wat_get (show n < ws.length by omega)]
    unfold svA1
    by_cases c : (wat ws n).1 ≤ m ∧ (wat ws n).2.1 ≤ k ∧ k ≤ (wat ws n).2.2.1
    · rw [if_pos c, if_pos ⟨c.1, wcB_iff.mpr c.2⟩]
      rfl
    · rw [if_neg c, if_neg (fun d => c ⟨d.1, wcB_iff.mp d.2⟩), Option.none_or]
      exact ih (by omega)
theorem vw_sv (S : SG) (k x : Int) : vw S k x = (svA S.1 k (lim S x)).getD 0 := by
  unfold vw nfI
  rw [svA_nf _ (Nat.le_refl _), List.take_length]
theorem vw_rep {S T : SG} {M : Int} (H : SOK S M) {nw ol : Int} (h : 0 ≤ sOf S ol ∧ sOf S ol ≤ eOf S nw ∧ eOf S nw ≤ S.1.length) (hT : T.1 = rep S nw ol ∧ T.2.2.1 = S.2.2.1 ∧ T.2.2.2.1 = S.2.2.2.1) (ho : ol = S.2.1.length - 1 → sOf S ol = 0) (k x : Int) : vw T k x = vw S k x := by
  have hl : lim T x = lim S x := by
    unfold lim
    rw [hT.2.1, hT.2.2]
  rw [vw_sv, vw_sv, hl, hT.1]
  refine svA_wcl H.1 (PRT_lim H.2.2.2.1 x) (by omega) (by omega) (fun h1 => ?_)
  have := ho (of_decide_eq_true h1)
  omega
theorem vw_flS {S : SG} {M : Int} (H : SOK S M) (k x : Int) : vw (flS S) k x = vw S k x := by
  have hE := H.2.2.2.2.2.2
  have hp := plc hE (i := -1) (by omega)
  refine vw_rep (T := flS S) H (nw := -1) (ol := -1) (by omega) ⟨rfl, rfl, rfl⟩ (fun h1 => ?_) k x
  unfold sOf
  exact iat_out (by omega)
theorem vw_mgS {S : SG} {M : Int} (H : SOK S M) {i : Int} (hi : 0 ≤ i ∧ i + 1 < S.2.1.length) (k x : Int) : vw (mgS S i) k x = vw S k x := by
  have hE := H.2.2.2.2.2.2
  obtain ⟨p1, p2, p3, p4, p5, p6, p7⟩ := mg_pre hE hi
  refine vw_rep (T := mgS S i) H (nw := i) (ol := i + 1) (by omega) ⟨rfl, rfl, rfl⟩ (fun h1 => ?_) k x
  unfold sOf
  exact iat_out (by omega)
theorem vw_wadd {S : SG} {M : Int} (H : SOK S M) (p q v k : Int) {x : Int} (hx : 0 ≤ x ∧ x < S.2.2.1.length) : vw (wadd S p q v) k x = vw S k x := by
  have hl : lim (wadd S p q v) x = lim S x := by
    unfold lim wadd
    dsimp only
    rw [if_pos hx, if_pos hx]
  have hm : lim S x ≤ S.2.2.2.1 := by
    unfold lim
    rw [if_pos hx]
    exact (H.2.2.2.2.1 _ (iat_mem hx)).2
  rw [vw_sv, vw_sv, hl]
  unfold wadd
  dsimp only
  rw [svA_append]
  have h1 : svA [(S.2.2.2.1 + 1, p, q, v)] k (lim S x) = none := by
    show (none : Option Int).or (svA1 _ k (lim S x)) = none
    rw [Option.none_or]
    unfold svA1
    exact if_neg (fun d => by have := d.1; dsimp only at this; omega)
  rw [h1, Option.none_or]
