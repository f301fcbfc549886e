/-! the text as commands -/
/-- how many digits a letter has behind it; -1 for no letter of a command -/
def nd (c : Int) : Int := if c = 99 then 1 else if c = 102 then 0 else if c = 109 then 1 else if c = 111 then 0 else if c = 112 then 5 else if c = 120 then 4 else -1
def D1 (l : List Int) (p : Int) : Int := sgn l p - 48
def D2 (l : List Int) (p : Int) : Int := (sgn l p - 48) * 10 + (sgn l (p + 1) - 48)
def D3 (l : List Int) (p : Int) : Int := ((sgn l p - 48) * 10 + (sgn l (p + 1) - 48)) * 10 + (sgn l (p + 2) - 48)
theorem dgs_1 (l : List Int) (p : Int) : dgs l p 0 0 1 = D1 l p := by
  show 0 * 10 + (sgn l (p + ((0 : Nat) : Int)) - 48) = _
  unfold D1
  rw [show p + ((0 : Nat) : Int) = p by omega]
  omega
theorem dgs_2 (l : List Int) (p : Int) : dgs l p 0 0 2 = D2 l p := by
  show (0 * 10 + (sgn l (p + ((0 : Nat) : Int)) - 48)) * 10 + (sgn l (p + ((0 + 1 : Nat) : Int)) - 48) = _
  unfold D2
  rw [show p + ((0 : Nat) : Int) = p by omega, show p + ((0 + 1 : Nat) : Int) = p + 1 by omega]
  omega
theorem dgs_3 (l : List Int) (p : Int) : dgs l p 0 0 3 = D3 l p := by
  show ((0 * 10 + (sgn l (p + ((0 : Nat) : Int)) - 48)) * 10 + (sgn l (p + ((0 + 1 : Nat) : Int)) - 48)) * 10 + (sgn l (p + ((0 + 1 + 1 : Nat) : Int)) - 48) = _
  unfold D3
  rw [show p + ((0 : Nat) : Int) = p by omega, show p + ((0 + 1 : Nat) : Int) = p + 1 by omega, show p + ((0 + 1 + 1 : Nat) : Int) = p + 2 by omega]
  omega
/-- the sign at a is a digit of the command that begins at s -/
def okB (l : List Int) (s a : Nat) : Bool := decide (48 ≤ sgn l a ∧ sgn l a ≤ 57) && (!decide (sgn l s = 99) || decide (sgn l a ≤ 49)) && (!decide (sgn l s = 109) || decide (sgn l a ≤ 52)) && (!decide (sgn l s = 112) || decide (a < s + 5) || decide (0 < D3 l (s + 3)))
theorem nd_rng (c : Int) : -1 ≤ nd c ∧ nd c ≤ 5 := by
  unfold nd
  split
  · omega
  · split
    · omega
    · split
      · omega
      · split
        · omega
        · split
          · omega
          · split <;> omega
theorem X4_digitsOf_is (h : HP) {c : Int} (hc : -1000 < c ∧ c < 1000) : f_X4_digitsOf h (zI c) = some (zI (nd c)) := by
  unfold f_X4_digitsOf b_X4_digitsOf_0 nd
  simp only [show (99 : Int32) = zI 99 by decide, show (102 : Int32) = zI 102 by decide, show (109 : Int32) = zI 109 by decide, show (111 : Int32) = zI 111 by decide, show (112 : Int32) = zI 112 by decide, show (120 : Int32) = zI 120 by decide]
  by_cases c1 : c = 99
  · rw [if_pos ((zI_inj (by omega)).mpr c1), if_pos c1]
    rfl
  · rw [if_neg (fun d => c1 ((zI_inj (by omega)).mp d)), if_neg c1]
    by_cases c2 : c = 102
    · rw [if_pos ((zI_inj (by omega)).mpr c2), if_pos c2]
      rfl
    · rw [if_neg (fun d => c2 ((zI_inj (by omega)).mp d)), if_neg c2]
      by_cases c3 : c = 109
      · rw [if_pos ((zI_inj (by omega)).mpr c3), if_pos c3]
        rfl
      · rw [if_neg (fun d => c3 ((zI_inj (by omega)).mp d)), if_neg c3]
        by_cases c4 : c = 111
        · rw [if_pos ((zI_inj (by omega)).mpr c4), if_pos c4]
          rfl
        · rw [if_neg (fun d => c4 ((zI_inj (by omega)).mp d)), if_neg c4]
          by_cases c5 : c = 112
          · rw [if_pos ((zI_inj (by omega)).mpr c5), if_pos c5]
            rfl
          · rw [if_neg (fun d => c5 ((zI_inj (by omega)).mp d)), if_neg c5]
            by_cases c6 : c = 120
            · rw [if_pos ((zI_inj (by omega)).mpr c6), if_pos c6]
              rfl
            · rw [if_neg (fun d => c6 ((zI_inj (by omega)).mp d)), if_neg c6]
              rfl
theorem D3_rng {h : HP} {t : Nat} {l : List Int} (e : TXT h t l) (p : Int) : -100000 < D3 l p ∧ D3 l p < 100000 := by
  have hb := (TXT_b e).2
  have h1 := hb p
  have h2 := hb (p + 1)
  have h3 := hb (p + 2)
  unfold D3
  omega
theorem X4_digitFits_is {h : HP} {t : Nat} {l : List Int} (e : TXT h t l) {s a : Nat} (hs : s < 900) (ha : a < 1000) : f_X4_digitFits h t (zI s) (zI a) = some (tB (okB l s a = true)) := by
  have hb := (TXT_b e).2
  have h1 := hb s
  have h2 := hb a
  have h3 := D3_rng e (s + 3)
  have g1 := X4_isDigit_is e (j := a) (by omega)
  have g2 := X4_signAt_is e (j := s) (by omega)
  have g3 := X4_signAt_is e (j := a) (by omega)
  have g4 := X4_digitsAt_is e (p := (s : Int) + 3) (by omega) (w := 3) (by omega)
  rw [dgs_3] at g4
  obtain ⟨f, e0, -⟩ := e
  unfold f_X4_digitFits b_X4_digitFits_0
  rw [kO_e e0, Option.bind_some, g1, Option.bind_some]
  unfold okB
  by_cases c0 : 48 ≤ sgn l a ∧ sgn l a ≤ 57
  · rw [tB_1 c0, if_neg (by decide), g2, Option.bind_some, decide_eq_true c0, Bool.true_and, show (99 : Int32) = zI 99 by decide, show (109 : Int32) = zI 109 by decide, show (112 : Int32) = zI 112 by decide]
    by_cases c1 : sgn l s = 99
    · rw [if_pos ((zI_inj (by omega)).mpr c1), g3, Option.bind_some, show (49 : Int32) = zI 49 by decide, c1]
      by_cases c2 : 49 < sgn l a
      · rw [if_pos ((zI_lt (by omega)).mpr c2), decide_eq_false (show ¬ sgn l a ≤ 49 by omega)]
        rfl
      · rw [if_neg (fun d => c2 ((zI_lt (by omega)).mp d)), decide_eq_true (show sgn l a ≤ 49 by omega)]
        rfl
    · rw [if_neg (fun d => c1 ((zI_inj (by omega)).mp d)), decide_eq_false c1]
      by_cases c3 : sgn l s = 109
      · rw [if_pos ((zI_inj (by omega)).mpr c3), g3, Option.bind_some, show (52 : Int32) = zI 52 by decide, c3]
        by_cases c2 : 52 < sgn l a
        · rw [if_pos ((zI_lt (by omega)).mpr c2), decide_eq_false (show ¬ sgn l a ≤ 52 by omega)]
          rfl
        · rw [if_neg (fun d => c2 ((zI_lt (by omega)).mp d)), decide_eq_true (show sgn l a ≤ 52 by omega)]
          rfl
      · rw [if_neg (fun d => c3 ((zI_inj (by omega)).mp d)), decide_eq_false c3]
        by_cases c4 : sgn l s = 112
        · rw [if_pos ((zI_inj (by omega)).mpr c4), show (5 : Int32) = zI 5 by decide, zI_add, show (3 : Int32) = zI ((3 : Nat) : Int) by decide, zI_add, c4]
          by_cases c5 : a < s + 5
          · rw [if_pos ((zI_lt (by omega)).mpr (by omega)), decide_eq_true c5]
            rfl
          · rw [if_neg (fun d => c5 (by have := (zI_lt (by omega)).mp d; omega)), show (s : Int) + ((3 : Nat) : Int) = (s : Int) + 3 by omega, g4, Option.bind_some, zl0, decide_eq_false c5]
            by_cases c6 : D3 l (s + 3) ≤ 0
            · rw [if_pos ((zI_le (by omega)).mpr c6), decide_eq_false (show ¬ 0 < D3 l (s + 3) by omega)]
              rfl
            · rw [if_neg (fun d => c6 ((zI_le (by omega)).mp d)), decide_eq_true (show 0 < D3 l (s + 3) by omega)]
              rfl
        · rw [if_neg (fun d => c4 ((zI_inj (by omega)).mp d)), decide_eq_false c4]
          rfl
  · rw [tB_0 c0, if_pos rfl, decide_eq_false c0]
    rfl
/-- the first place at which the command that begins at A is wrong; -1 for none -/
def bad (l : List Int) (A : Nat) : Int := if nd (sgn l A) = -1 then A else fst1 (fun x => okB l A x = false) (A + 1) (nd (sgn l A)).toNat
/-- the next command -/
def nxt (l : List Int) (A : Nat) : Nat := A + 1 + (nd (sgn l A)).toNat
def errF (l : List Int) : Nat → Nat → Int
  | 0, _ => -1
  | n + 1, A => if l.length ≤ A then -1 else if bad l A = -1 then errF l n (nxt l A) else bad l A
theorem errF_succ (l : List Int) (n A : Nat) : errF l (n + 1) A = if l.length ≤ A then -1 else if bad l A = -1 then errF l n (nxt l A) else bad l A := rfl
/-- the error position -/
def errP (l : List Int) : Int := if sgn l 0 = 71 then errF l 200 1 else 0
theorem sgn_out {l : List Int} {j : Int} (h : j < 0 ∨ (l.length : Int) ≤ j) : sgn l j = -1 := by
  unfold sgn
  rw [if_neg (by omega)]
theorem okB_out {l : List Int} {s a : Nat} (h : l.length ≤ a) : okB l s a = false := by
  unfold okB
  rw [sgn_out (j := (a : Int)) (by omega)]
  rfl
theorem Bnf {b : Bool} (h : ¬ b = false) : b = true := by
  cases b
  · exact absurd rfl h
  · rfl
theorem fE_due {h : HP} {t : Nat} {l : List Int} (e : TXT h t l) {s : Nat} (hs : s < 500) : ∀ (r n a : Nat), a ≤ l.length → r ≤ 5 → r + 1 < n → (fst1 (fun x => okB l s x = false) a r = -1 → a + r ≤ l.length ∧ b_X4_firstError_18 h t n (zI s) (zI r) (zI a) = b_X4_firstError_18 h t (n - r) (zI s) (zI 0) (zI ((a + r : Nat) : Int))) ∧ (fst1 (fun x => okB l s x = false) a r ≠ -1 → b_X4_firstError_18 h t n (zI s) (zI r) (zI a) = some (zI (fst1 (fun x => okB l s x = false) a r))) := by
  have hb := TXT_b e
  have hf : gI 4 1 h t = some (zI l.length) := by
    obtain ⟨f, e0, -⟩ := e
    exact gI_e e0 rfl
  intro r
  induction r with
  | zero =>
    intro n a ha hr hn
    refine ⟨fun _ => ⟨by omega, ?_⟩, fun d => absurd rfl d⟩
    rw [Nat.sub_zero, Nat.add_zero]
    rfl
  | succ r ih =>
    intro n a ha hr hn
    obtain ⟨n, rfl⟩ : ∃ k, n = k + 1 := ⟨n - 1, by omega⟩
    rw [fst1_succ]
    by_cases c1 : a = l.length
    · rw [if_pos (okB_out (by omega))]
      refine ⟨fun d => by omega, fun _ => ?_⟩
      show c_X4_firstError_18 h t _ _ _ _ = _
      unfold c_X4_firstError_18
      rw [hf, Option.bind_some, if_pos ((zI_le (by omega)).mpr (by omega)), zl0, if_neg (fun d => absurd ((zI_le (by omega)).mp d) (by omega)), Option.bind_some, c1]
    · by_cases c2 : okB l s a = false
      · rw [if_pos c2]
        refine ⟨fun d => by omega, fun _ => ?_⟩
        show c_X4_firstError_18 h t _ _ _ _ = _
        unfold c_X4_firstError_18
        rw [hf, Option.bind_some, if_neg (fun d => absurd ((zI_le (by omega)).mp d) (by omega)), zl0, if_neg (fun d => absurd ((zI_inj (by omega)).mp d) (by omega)), X4_digitFits_is e (by omega) (by omega), Option.bind_some, c2, if_pos (show tB (false = true) = zI 0 from rfl)]
      · rw [if_neg c2]
        have h1 := ih n (a + 1) (by omega) (by omega) (by omega)
        have h2 : b_X4_firstError_18 h t (n + 1) (zI s) (zI ((r + 1 : Nat) : Int)) (zI a) = b_X4_firstError_18 h t n (zI s) (zI r) (zI ((a + 1 : Nat) : Int)) := by
          show c_X4_firstError_18 h t _ _ _ _ = _
          unfold c_X4_firstError_18
          rw [hf, Option.bind_some, if_neg (fun d => absurd ((zI_le (by omega)).mp d) (by omega)), zl0, if_neg (fun d => absurd ((zI_inj (by omega)).mp d) (by omega)), X4_digitFits_is e (by omega) (by omega), Option.bind_some, Bnf c2, if_neg (show ¬ tB (true = true) = zI 0 by decide), zl1, zI_neg, zI_add, zI_add, show ((r + 1 : Nat) : Int) + -1 = r by omega, cast1]
        rw [h2]
        refine ⟨fun d => ?_, h1.2⟩
        obtain ⟨h3, h4⟩ := h1.1 d
        refine ⟨by omega, ?_⟩
        rw [h4, show n + 1 - (r + 1) = n - r by omega, show a + 1 + r = a + (r + 1) by omega]
theorem firstError_loop {h : HP} {t : Nat} {l : List Int} (e : TXT h t l) : ∀ (d n A s : Nat), A ≤ l.length → l.length < A + d → 8 * d + 20 < n → s < 500 → b_X4_firstError_18 h t n (zI s) (zI 0) (zI A) = some (zI (errF l d A)) := by
  have hb := TXT_b e
  have hf : gI 4 1 h t = some (zI l.length) := by
    obtain ⟨f, e0, -⟩ := e
    exact gI_e e0 rfl
  intro d
  induction d with
  | zero =>
    intro n A s hA hd hn hs
    omega
  | succ d ih =>
    intro n A s hA hd hn hs
    obtain ⟨n, rfl⟩ : ∃ k, n = k + 1 := ⟨n - 1, by omega⟩
    rw [errF_succ]
    show c_X4_firstError_18 h t _ _ _ _ = _
    unfold c_X4_firstError_18
    rw [hf, Option.bind_some]
    by_cases c1 : l.length ≤ A
    · rw [if_pos ((zI_le (by omega)).mpr (by omega)), if_pos (show zI 0 ≤ 0 by decide), if_pos c1]
      rfl
    · have hg := hb.2 A
      have hn2 := nd_rng (sgn l A)
      rw [if_neg (fun d => absurd ((zI_le (by omega)).mp d) (by omega)), zl0, if_pos rfl, if_neg c1, X4_signAt_is e (by omega), Option.bind_some, X4_digitsOf_is h (by omega), Option.bind_some, zm1]
      unfold bad
      by_cases c2 : nd (sgn l A) = -1
      · rw [if_pos ((zI_inj (by omega)).mpr c2), if_pos c2, if_neg (by omega)]
      · rw [if_neg (fun d => c2 ((zI_inj (by omega)).mp d)), if_neg c2]
        have h1 := fE_due e (s := A) (by omega) (nd (sgn l A)).toNat n (A + 1) (by omega) (by omega) (by omega)
        rw [show (((nd (sgn l A)).toNat : Nat) : Int) = nd (sgn l A) by omega] at h1
        rw [zl1, zI_add, ← cast1]
        by_cases c3 : fst1 (fun x => okB l A x = false) (A + 1) (nd (sgn l A)).toNat = -1
        · rw [if_pos c3]
          obtain ⟨h2, h3⟩ := h1.1 c3
          rw [h3]
          exact ih (n - (nd (sgn l A)).toNat) (nxt l A) A h2 (by unfold nxt; omega) (by omega) (by omega)
        · rw [if_neg c3]
          exact h1.2 c3
theorem X4_firstError_is {h : HP} {t : Nat} {l : List Int} (e : TXT h t l) : f_X4_firstError h t = some (zI (errP l)) := by
  have hb := TXT_b e
  have hg := hb.2 0
  have h1 := fun (hl : 1 ≤ l.length) => firstError_loop e 200 FU 1 0 hl (by omega) (by unfold FU; omega) (by omega)
  have hs := X4_signAt_is e (j := 0) (by omega)
  obtain ⟨f, e0, -⟩ := e
  unfold f_X4_firstError b_X4_firstError_0 errP
  rw [kO_e e0, Option.bind_some, zl0, hs, Option.bind_some, show (71 : Int32) = zI 71 by decide]
  by_cases c : sgn l 0 = 71
  · rw [if_pos ((zI_inj (by omega)).mpr c), if_pos c, zl1]
    refine h1 ?_
    by_cases c2 : l.length = 0
    · rw [sgn_out (by omega)] at c
      omega
    · omega
  · rw [if_neg (fun d => c ((zI_inj (by omega)).mp d)), if_neg c]
