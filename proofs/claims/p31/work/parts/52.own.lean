/-! numbers tell runs apart, and are all different in memory -/
def SEPI (ws : List WR) (e : Int) : Prop := ∀ i j : Nat, (i : Int) < e → e ≤ j → j < ws.length → (wat ws i).1 < (wat ws j).1
def QOK (S : SG) : Prop := (∀ x : Nat, x < S.2.1.length → SEPI S.1 (iat S.2.1 x)) ∧ ∀ i j : Nat, sOf S (-1) ≤ i → i < j → j < S.1.length → (wat S.1 i).1 < (wat S.1 j).1
theorem app3_at {ws K : List WR} {p q c : Nat} (hp : p ≤ q) (hq : q ≤ ws.length) (hc : K.length = c) {i : Nat} (hi : i < (ws.take p ++ K ++ ws.drop q).length) : (i < p ∧ wat (ws.take p ++ K ++ ws.drop q) i = wat ws i) ∨ ((p ≤ i ∧ i < p + c) ∧ wat (ws.take p ++ K ++ ws.drop q) i ∈ K) ∨ (p + c ≤ i ∧ i - (p + c) + q < ws.length ∧ wat (ws.take p ++ K ++ ws.drop q) i = wat ws (i - (p + c) + q : Nat)) := by
  have hl : (ws.take p ++ K ++ ws.drop q).length = p + c + (ws.length - q) := by rw [len_rep hp hq, hc]
  have hL : (ws.take p ++ K).length = p + c := by
    rw [List.length_append, List.length_take, hc]
    omega
  have ht : (ws.take p).length = p := by
    rw [List.length_take]
    omega
  rw [wat_get hi]
  by_cases c1 : i < p
  · refine Or.inl ⟨c1, ?_⟩
    rw [List.getElem_append_left (by omega), List.getElem_append_left (by omega), List.getElem_take, wat_get (by omega)]
  · by_cases c2 : i < p + c
    · refine Or.inr (Or.inl ⟨⟨by omega, c2⟩, ?_⟩)
      rw [List.getElem_append_left (by omega), List.getElem_append_right (by omega)]
      exact List.getElem_mem _
    · refine Or.inr (Or.inr ⟨by omega, by omega, ?_⟩)
      rw [List.getElem_append_right (by omega), List.getElem_drop, wat_get (by omega)]
      congr 1
      omega
theorem wcl_at {ws : List WR} {Y : List Int} {p q : Nat} {o : Bool} (hw : WSOK ws) (hp : p ≤ q) (hq : q ≤ ws.length) {c : Nat} (hc : (clL ws Y p q o).length = c) {i : Nat} (hi : i < (wcl ws Y p q o).length) : ∃ t : Nat, t < ws.length ∧ (wat (wcl ws Y p q o) i).1 = (wat ws t).1 ∧ (i < p → t = i) ∧ (p ≤ i ∧ i < p + c → p ≤ t ∧ t < q) ∧ (p + c ≤ i → t + (p + c) = i + q) := by
  rcases app3_at hp hq hc hi with ⟨h1, h2⟩ | ⟨h1, h2⟩ | ⟨h1, h2, h3⟩
  · exact ⟨i, by omega, congrArg (·.1) h2, fun _ => rfl, fun d => by omega, fun d => by omega⟩
  · obtain ⟨t, t1, t2, t3⟩ := clF_mem hw (q - p) p (by omega) _ h2
    exact ⟨t, by omega, t3.1, fun d => by omega, fun _ => by omega, fun d => by omega⟩
  · exact ⟨i - (p + c) + q, h2, congrArg (·.1) h3, fun d => by omega, fun d => by omega, fun _ => by omega⟩
theorem QOK_emp : QOK emp := ⟨fun x hx => absurd hx (Nat.not_lt_zero _), fun i j _ _ h => absurd h (Nat.not_lt_zero _)⟩
theorem QOK_wadd {S : SG} {M : Int} (H : SOK S M) (Q : QOK S) (p q v : Int) : QOK (wadd S p q v) := by
  have hE := H.2.2.2.2.2.2
  have hn : ∀ i : Nat, i < S.1.length → (wat S.1 i).1 < S.2.2.2.1 + 1 := fun i hi => by
    have := (H.2.2.2.1 _ (wat_mem (ws := S.1) (j := i) (by omega))).2
    omega
  have hl : (S.1 ++ [(S.2.2.2.1 + 1, p, q, v)]).length = S.1.length + 1 := by
    rw [List.length_append]
    rfl
  constructor
  · intro x hx i j hi hj hjl
    have h1 : i < S.1.length := by
      have := (ENS_at hE (i := x) (by
        have : x < S.2.1.length := hx
        omega)).2
      have : (i : Int) < iat S.2.1 x := hi
      omega
    have hjl2 : j < S.1.length + 1 := hl ▸ hjl
    show (wat (S.1 ++ [(S.2.2.2.1 + 1, p, q, v)]) i).1 < (wat (S.1 ++ [(S.2.2.2.1 + 1, p, q, v)]) j).1
    rw [wat_app h1]
    by_cases c : j < S.1.length
    · rw [wat_app c]
      exact Q.1 x hx i j hi hj c
    · rw [wat_last (by omega)]
      exact hn i h1
  · intro i j hi hij hjl
    have hjl2 : j < S.1.length + 1 := hl ▸ hjl
    show (wat (S.1 ++ [(S.2.2.2.1 + 1, p, q, v)]) i).1 < (wat (S.1 ++ [(S.2.2.2.1 + 1, p, q, v)]) j).1
    rw [wat_app (by omega)]
    by_cases c : j < S.1.length
    · rw [wat_app c]
      exact Q.2 i j hi hij c
    · rw [wat_last (by omega)]
      exact hn i (by omega)
theorem QOK_same {S T : SG} (Q : QOK S) (h : T.1 = S.1 ∧ T.2.1 = S.2.1) : QOK T := by
  unfold QOK sOf at *
  rw [h.1, h.2]
  exact Q
theorem QOK_flS {S : SG} {M : Int} (H : SOK S M) (Q : QOK S) : QOK (flS S) := by
  have hE := H.2.2.2.2.2.2
  have hp := plc hE (i := -1) (by omega)
  have hm := eOf_m1 S
  have hr := rep_len (S := S) (nw := -1) (ol := -1) (by omega)
  have hR : (flS S).1.length = (rep S (-1) (-1)).length := rfl
  have hK : (flK S).length = (clP S (-1) (-1)).length := rfl
  have hends : ∀ x : Nat, x < S.2.1.length → iat S.2.1 x ≤ sOf S (-1) := by
    intro x hx
    have := ENS_mono hE (i := x) (j := S.2.1.length - 1) (by omega)
    unfold sOf
    rw [show (S.2.1.length : Int) - 2 - -1 = S.2.1.length - 1 by omega]
    exact this
  have hsep : ∀ x : Nat, x < S.2.1.length → SEPI (rep S (-1) (-1)) (iat S.2.1 x) := by
    intro x hx i j hi hj hjl
    have he := hends x hx
    obtain ⟨t, t1, t2, t3, t4, t5⟩ := wcl_at (Y := S.2.2.1) (o := decide ((-1 : Int) = S.2.1.length - 1)) H.1 (p := (sOf S (-1)).toNat) (q := (eOf S (-1)).toNat) (by omega) (by omega) rfl (i := j) hjl
    obtain ⟨u, u1, u2, u3, u4, u5⟩ := wcl_at (Y := S.2.2.1) (o := decide ((-1 : Int) = S.2.1.length - 1)) H.1 (p := (sOf S (-1)).toNat) (q := (eOf S (-1)).toNat) (by omega) (by omega) rfl (i := i) (Nat.lt_trans (show i < j by omega) hjl)
    have hu := u3 (by omega)
    have h9 := Q.1 x hx u t (by omega) (by omega) t1
    exact (u2.symm ▸ t2.symm ▸ h9 : (wat (wcl S.1 S.2.2.1 (sOf S (-1)).toNat (eOf S (-1)).toNat (decide ((-1 : Int) = S.2.1.length - 1))) i).1 < (wat (wcl S.1 S.2.2.1 (sOf S (-1)).toNat (eOf S (-1)).toNat (decide ((-1 : Int) = S.2.1.length - 1))) j).1)
  have hend : (flS S).2.1 = if 0 < (flK S).length then S.2.1 ++ [sOf S (-1) + (flK S).length] else S.2.1 := rfl
  by_cases c : 0 < (flK S).length
  · rw [if_pos c] at hend
    have hlen : (flS S).2.1.length = S.2.1.length + 1 := by rw [hend, List.length_append]; rfl
    constructor
    · intro x hx
      rw [hlen] at hx
      rw [hend]
      by_cases c2 : x < S.2.1.length
      · rw [iat_app c2]
        exact hsep x c2
      · rw [iat_last (by omega)]
        intro i j hi hj hjl
        omega
    · intro i j hi hij hjl
      unfold sOf at hi
      rw [hlen, hend, show ((S.2.1.length + 1 : Nat) : Int) - 2 - -1 = (S.2.1.length : Nat) by omega, iat_last rfl] at hi
      omega
  · rw [if_neg c] at hend
    constructor
    · intro x hx
      rw [hend] at hx ⊢
      exact hsep x hx
    · intro i j hi hij hjl
      have : sOf (flS S) (-1) = sOf S (-1) := by
        unfold sOf
        rw [hend]
      omega
theorem QOK_mgS {S : SG} {M : Int} (H : SOK S M) (Q : QOK S) {i : Int} (hi : 0 ≤ i ∧ i + 1 < S.2.1.length) : QOK (mgS S i) := by
  have hE := H.2.2.2.2.2.2
  obtain ⟨p1, p2, p3, p4, p5, p6, p7⟩ := mg_pre hE hi
  have hr := rep_len (S := S) (nw := i) (ol := i + 1) (by omega)
  have hR : (mgS S i).1.length = (rep S i (i + 1)).length := rfl
  have hK : (mgK S i).length = (clP S i (i + 1)).length := rfl
  have hC : (clP S i (i + 1)).length = (clL S.1 S.2.2.1 (sOf S (i + 1)).toNat (eOf S i).toNat (decide (i + 1 = S.2.1.length - 1))).length := rfl
  obtain ⟨o, ho⟩ : ∃ o : Nat, (S.2.1.length : Int) - 2 - i = o := ⟨((S.2.1.length : Int) - 2 - i).toNat, by omega⟩
  have ho2 : ((S.2.1.length : Int) - 2 - i).toNat = o := by omega
  have hg : (mgG S i = 1 ∧ 0 < (mgK S i).length) ∨ (mgG S i = 2 ∧ (mgK S i).length = 0) := by
    unfold mgG
    split <;> omega
  have hog : o + mgG S i ≤ S.2.1.length := by omega
  have hv : mgV S i = eOf S i - sOf S (i + 1) - (mgK S i).length := rfl
  rw [show (S.2.1.length : Int) - 1 - i = o + 1 by omega] at p6
  rw [show (S.2.1.length : Int) - 2 - i = o by omega] at p5
  rw [show (S.2.1.length : Int) - 3 - i = o - 1 by omega] at p7
  have hat : ∀ a : Nat, a < (mgS S i).1.length → ∃ t : Nat, t < S.1.length ∧ (wat (mgS S i).1 a).1 = (wat S.1 t).1 ∧ ((a : Int) < sOf S (i + 1) → t = a) ∧ (sOf S (i + 1) ≤ a ∧ (a : Int) < sOf S (i + 1) + (mgK S i).length → sOf S (i + 1) ≤ t ∧ (t : Int) < eOf S i) ∧ (sOf S (i + 1) + (mgK S i).length ≤ a → (t : Int) = a + mgV S i) := by
    intro a ha
    obtain ⟨t, t1, t2, t3, t4, t5⟩ := wcl_at (Y := S.2.2.1) (o := decide (i + 1 = S.2.1.length - 1)) H.1 (p := (sOf S (i + 1)).toNat) (q := (eOf S i).toNat) (by omega) (by omega) rfl (i := a) ha
    refine ⟨t, t1, t2, fun d => t3 (by omega), fun d => ?_, fun d => ?_⟩
    · have := t4 (by omega)
      omega
    · have := t5 (by omega)
      omega
  have hend : (mgS S i).2.1 = mgE S.2.1 o (mgG S i) (mgV S i) := by
    show mgE S.2.1 ((S.2.1.length : Int) - 2 - i).toNat (mgG S i) (mgV S i) = _
    rw [ho2]
  have hlen : (mgS S i).2.1.length = S.2.1.length - mgG S i := by rw [hend, mgE_len hog]
  constructor
  · intro x hx a b ha hb hbl
    rw [hlen] at hx
    rw [hend, mgE_at hog (by omega)] at ha hb
    obtain ⟨t, t1, t2, t3, t4, t5⟩ := hat a (by omega)
    obtain ⟨u, u1, u2, u3, u4, u5⟩ := hat b hbl
    rw [t2, u2]
    by_cases c : (x : Int) < o
    · rw [if_pos c] at ha hb
      have h2 := ENS_mono hE (i := x) (j := o - 1) (by omega)
      have h3 := t3 (by omega)
      refine Q.1 x (by omega) t u (by omega) ?_ u1
      by_cases d1 : (b : Int) < sOf S (i + 1)
      · have := u3 d1
        omega
      · by_cases d2 : (b : Int) < sOf S (i + 1) + (mgK S i).length
        · have := u4 ⟨by omega, d2⟩
          omega
        · have := u5 (by omega)
          omega
    · rw [if_neg c] at ha hb
      have h2 := ENS_mono hE (i := o + 1) (j := x + mgG S i) (by omega)
      have h6 := u5 (by omega)
      refine Q.1 (x + mgG S i) (by omega) t u ?_ ?_ u1
      · rw [show ((x + mgG S i : Nat) : Int) = x + mgG S i by omega]
        by_cases d1 : (a : Int) < sOf S (i + 1)
        · have := t3 d1
          omega
        · by_cases d2 : (a : Int) < sOf S (i + 1) + (mgK S i).length
          · have := t4 ⟨by omega, d2⟩
            omega
          · have := t5 (by omega)
            omega
      · rw [show ((x + mgG S i : Nat) : Int) = x + mgG S i by omega]
        omega
  · have hs : sOf S (-1) = iat S.2.1 (S.2.1.length - 1) := by
      unfold sOf
      congr 1
      omega
    have hmem : sOf (mgS S i) (-1) = sOf S (-1) - mgV S i := by
      show iat (mgS S i).2.1 ((mgS S i).2.1.length - 2 - -1) = _
      rw [hlen, hend]
      by_cases c0 : S.2.1.length - mgG S i = 0
      · rw [iat_out (by omega)]
        have e1 : iat S.2.1 ((o : Int) - 1) = 0 := iat_out (by omega)
        have e2 : iat S.2.1 ((o : Int) + 1) = iat S.2.1 (S.2.1.length - 1) := congrArg _ (by omega)
        omega
      · rw [mgE_at hog (by omega)]
        by_cases c1 : ((S.2.1.length - mgG S i : Nat) : Int) - 2 - -1 < o
        · rw [if_pos c1]
          have e1 : iat S.2.1 (((S.2.1.length - mgG S i : Nat) : Int) - 2 - -1) = iat S.2.1 ((o : Int) - 1) := congrArg _ (by omega)
          have e2 : iat S.2.1 ((o : Int) + 1) = iat S.2.1 (S.2.1.length - 1) := congrArg _ (by omega)
          omega
        · rw [if_neg c1]
          have e1 : iat S.2.1 (((S.2.1.length - mgG S i : Nat) : Int) - 2 - -1 + mgG S i) = iat S.2.1 (S.2.1.length - 1) := congrArg _ (by omega)
          omega
    have hq : eOf S i ≤ sOf S (-1) := by
      rw [p6, hs]
      exact ENS_mono hE (by omega)
    intro a b ha hab hbl
    rw [hmem] at ha
    obtain ⟨t, t1, t2, t3, t4, t5⟩ := hat a (by omega)
    obtain ⟨u, u1, u2, u3, u4, u5⟩ := hat b hbl
    have h5 := t5 (by omega)
    have h6 := u5 (by omega)
    rw [t2, u2]
    exact Q.2 t u (by omega) (by omega) u1
