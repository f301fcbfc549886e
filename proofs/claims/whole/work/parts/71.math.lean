/-! the reference reads a command -/
def oneC (l : List Int) (A : Nat) : Int := if sgn l A = 112 ∨ sgn l A = 120 then D2 l ((A + 1 : Nat) : Int) else if sgn l A = 109 ∨ sgn l A = 99 then D1 l ((A + 1 : Nat) : Int) else 0
def twoC (l : List Int) (A : Nat) : Int := if sgn l A = 112 then D3 l ((A + 3 : Nat) : Int) else if sgn l A = 120 then D2 l ((A + 3 : Nat) : Int) else 0
/-- what a command leaves, when it is read -/
def CMDR (m : Nat) (v : Nat → Int32) (l : List Int) (A : Nat) (h h' : HP) : Prop := ∃ v', MOB h' m v' ∧ RTX h' m v' l ∧ (∀ i : Nat, i < 12 → v' i = v i) ∧ OFF m 1 h h' ∧ (bad l A = -1 → v' 12 = zI (nxt l A) ∧ v' 13 = 0 ∧ v' 14 = zI (sgn l A) ∧ v' 15 = zI (oneC l A) ∧ v' 16 = zI (twoC l A)) ∧ (bad l A ≠ -1 → v' 12 = zI (bad l A) ∧ v' 13 = 1)
theorem RD_end {h h0 : HP} {m : Nat} {v v0 : Nat → Int32} {l : List Int} {A k : Nat} {w : Bool} (hn : nd (sgn l A) = k) (e : RD h m v l A k w) (hv : ∀ i : Nat, i < 12 → v i = v0 i) (o : OFF m 1 h0 h) (h14 : w = false → v 14 = zI (sgn l A) ∧ v 15 = zI (oneC l A) ∧ v 16 = zI (twoC l A)) : CMDR m v0 l A h0 h := by
  obtain ⟨e0, t, h13, a, h12, ha, hc⟩ := e
  have hb : bad l A = fst1 (fun x => okB l A x = false) (A + 1) k := by
    unfold bad
    rw [if_neg (by omega), hn, Int.toNat_natCast]
  have hx : nxt l A = A + 1 + k := by
    unfold nxt
    rw [hn, Int.toNat_natCast]
  refine ⟨v, e0, t, hv, o, fun hg => ?_, fun hg => ?_⟩
  · rw [hb] at hg
    rcases hc with ⟨c1, c2, c3⟩ | ⟨c1, c2, c3⟩
    · rw [hx, ← c2]
      subst c3
      exact ⟨h12, h13.trans (tB_0 (by decide)), h14 rfl⟩
    · exact absurd hg c1
  · rw [hb] at hg ⊢
    rcases hc with ⟨c1, c2, c3⟩ | ⟨c1, c2, c3⟩
    · exact absurd c1 hg
    · subst c3
      rw [← c2]
      exact ⟨h12, h13.trans (tB_1 rfl)⟩
theorem okB_dig {l : List Int} {A a : Nat} (h : okB l A a = true) : 48 ≤ sgn l a ∧ sgn l a ≤ 57 := by
  unfold okB at h
  simp only [Bool.and_eq_true, decide_eq_true_eq] at h
  exact h.1.1.1
/-- a digit that any digit may be -/
theorem okB_any {l : List Int} {A a : Nat} (h1 : sgn l A ≠ 99) (h2 : sgn l A ≠ 109) (h3 : sgn l A = 112 → a < A + 5) : (48 ≤ sgn l a ∧ sgn l a ≤ 57) ↔ okB l A a = true := by
  unfold okB
  rw [decide_eq_false h1, decide_eq_false h2]
  by_cases c : sgn l A = 112
  · rw [decide_eq_true c, decide_eq_true (h3 c)]
    simp
  · rw [decide_eq_false c]
    simp
theorem cmd_236 {h h0 : HP} {m : Nat} {v v0 : Nat → Int32} {l : List Int} {A k : Nat} {w : Bool} (hn : nd (sgn l A) = k) (e : RD h m v l A k w) (hv : ∀ i : Nat, i < 12 → v i = v0 i) (o : OFF m 1 h0 h) {x : Int32} (h14 : w = false → v 14 = zI (sgn l A) ∧ v 15 = zI (oneC l A) ∧ x = zI (twoC l A)) : WP (b_X8_command_236 h m x) (CMDR m v0 l A h0) := by
  unfold b_X8_command_236
  refine wpb (RD_v e (i := 16) (by omega)) ?_
  rintro h1 ⟨q1, q2⟩
  refine wr (RD_end hn q1 (fun i hi => (upd_ne (by omega)).trans (hv i hi)) (OFF_trans o q2) (fun hw => ?_))
  obtain ⟨g1, g2, g3⟩ := h14 hw
  exact ⟨(upd_ne (by omega)).trans g1, (upd_ne (by omega)).trans g2, (upd_eq rfl).trans g3⟩
theorem cmd_188 {h h0 : HP} {m : Nat} {v v0 : Nat → Int32} {l : List Int} {A k : Nat} {w : Bool} (hA : A < l.length) (e : RD h m v l A k w) (hv : ∀ i : Nat, i < 12 → v i = v0 i) (o : OFF m 1 h0 h) {x : Int32} (hk : (sgn l A = 112 ∧ k = 4) ∨ (sgn l A ≠ 112 ∧ nd (sgn l A) = k)) (h14 : w = false → v 14 = zI (sgn l A) ∧ v 15 = zI (oneC l A) ∧ x = zI (if sgn l A = 112 then D2 l ((A + 3 : Nat) : Int) else twoC l A)) : WP (b_X8_command_188 m h (zI (sgn l A)) m x) (CMDR m v0 l A h0) := by
  have hb := RTX_b e.2.1
  have hs := hb.2 A
  unfold b_X8_command_188
  refine wpb (RD_v e (i := 16) (by omega)) ?_
  rintro h1 ⟨q1, q2⟩
  have hv1 : ∀ i : Nat, i < 12 → upd v 16 x i = v0 i := fun i hi => (upd_ne (by omega)).trans (hv i hi)
  simp only [show (112 : Int32) = zI 112 by decide, show (49 : Int32) = zI 49 by decide, show (48 : Int32) = zI 48 by decide, show (10 : Int32) = zI 10 by decide]
  rcases hk with ⟨k1, k2⟩ | ⟨k1, k2⟩
  · refine wt ((zI_inj (by omega)).mpr k1) ?_
    refine wb (gI_e q1.1 rfl) ?_
    refine wb (gI_e q1.1 rfl) ?_
    rw [upd_eq (show (16 : Nat) = 16 from rfl)]
    have fin : ∀ lo : Int, (w = false → lo = if D2 l ((A + 3 : Nat) : Int) = 0 then 49 else 48) → (lo = 48 ∨ lo = 49) → WP (b_X8_command_220 h1 m (zI 10 * x) m (zI lo)) (CMDR m v0 l A h0) := by
      intro lo hlo hlo2
      unfold b_X8_command_220
      simp only [show (57 : Int32) = zI 57 by decide, show (48 : Int32) = zI 48 by decide]
      refine wpb (sign_ch hA q1 (by omega) (fun hw => ?_)) ?_
      · have hc : CH l A k (A + 1 + k) false ∧ fst1 (fun x => okB l A x = false) (A + 1) k = -1 := by
          obtain ⟨-, -, -, a, -, -, hc⟩ := q1
          rcases hc with ⟨c1, c2, c3⟩ | ⟨c1, c2, c3⟩
          · exact ⟨Or.inl ⟨c1, rfl, rfl⟩, c1⟩
          · rw [c3] at hw
            exact absurd hw (by decide)
        have h3 := fst1_none hc.2 (A + 3) (by omega) (by omega)
        have h4 := fst1_none hc.2 (A + 4) (by omega) (by omega)
        have d3 := okB_dig (Bnf h3)
        have d4 := okB_dig (Bnf h4)
        subst k2
        have hl := hlo hw
        have hD : D3 l ((A : Int) + 3) = D2 l ((A + 3 : Nat) : Int) * 10 + (sgn l ((A + 1 + 4 : Nat) : Int) - 48) := by
          unfold D3 D2
          rw [show (A : Int) + 3 = ((A + 3 : Nat) : Int) by omega, show ((A + 3 : Nat) : Int) + 2 = ((A + 1 + 4 : Nat) : Int) by omega]
        have hD2 : D2 l ((A + 3 : Nat) : Int) = (sgn l ((A + 3 : Nat) : Int) - 48) * 10 + (sgn l ((A + 4 : Nat) : Int) - 48) := by
          unfold D2
          rw [show ((A + 3 : Nat) : Int) + 1 = ((A + 4 : Nat) : Int) by omega]
        unfold okB
        rw [k1, hD, decide_eq_false (show ¬ (112 : Int) = 99 by omega), decide_eq_false (show ¬ (112 : Int) = 109 by omega), decide_eq_true (show (112 : Int) = 112 from rfl), decide_eq_false (show ¬ A + 1 + 4 < A + 5 by omega)]
        simp only [Bool.not_false, Bool.true_or, Bool.and_true, Bool.not_true, Bool.false_or, Bool.and_eq_true, decide_eq_true_eq]
        split at hl <;> omega
      · rintro ⟨y, h2⟩ ⟨v2, w2, e2, g1, g2, o2⟩
        refine cmd_236 (k := k + 1) (by rw [k1, k2]; rfl) e2 (fun i hi => (g2 i (by omega) (by omega)).trans (hv1 i hi)) (OFF_trans o (OFF_trans q2 o2)) (fun hw => ?_)
        obtain ⟨r1, r2⟩ := g1 hw
        obtain ⟨r3, r4, r5⟩ := h14 r1
        dsimp only at r2
        refine ⟨(g2 14 (by omega) (by omega)).trans ((upd_ne (by omega)).trans r3), (g2 15 (by omega) (by omega)).trans ((upd_ne (by omega)).trans r4), ?_⟩
        rw [if_pos k1] at r5
        dsimp only
        rw [r5, r2, zI_mul, zI_add, zI_sub]
        unfold twoC
        rw [if_pos k1]
        refine congrArg zI ?_
        unfold D3 D2
        rw [show ((A + 3 : Nat) : Int) + 2 = ((A + 1 + k : Nat) : Int) by omega]
        omega
    by_cases c : x = zI 0
    · rw [zl0]
      refine wt c ?_
      refine fin 49 (fun hw => ?_) (Or.inr rfl)
      obtain ⟨r3, r4, r5⟩ := h14 hw
      rw [if_pos k1] at r5
      have h3 := hb.2 ((A + 3 : Nat) : Int)
      have h4 := hb.2 (((A + 3 : Nat) : Int) + 1)
      have h5 : -100000 < D2 l ((A + 3 : Nat) : Int) ∧ D2 l ((A + 3 : Nat) : Int) < 100000 := by
        unfold D2
        omega
      rw [r5, zI_inj (by omega)] at c
      rw [if_pos c]
    · rw [zl0]
      refine wf c ?_
      refine fin 48 (fun hw => ?_) (Or.inl rfl)
      obtain ⟨r3, r4, r5⟩ := h14 hw
      rw [if_pos k1] at r5
      have h3 := hb.2 ((A + 3 : Nat) : Int)
      have h4 := hb.2 (((A + 3 : Nat) : Int) + 1)
      have h5 : -100000 < D2 l ((A + 3 : Nat) : Int) ∧ D2 l ((A + 3 : Nat) : Int) < 100000 := by
        unfold D2
        omega
      rw [r5, zI_inj (by omega)] at c
      rw [if_neg c]
  · refine wf (fun d => k1 ((zI_inj (by omega)).mp d)) ?_
    refine wb (gI_e q1.1 rfl) ?_
    refine cmd_236 k2 q1 hv1 (OFF_trans o q2) (fun hw => ?_)
    obtain ⟨r3, r4, r5⟩ := h14 hw
    rw [if_neg k1] at r5
    exact ⟨(upd_ne (by omega)).trans r3, (upd_ne (by omega)).trans r4, (upd_eq rfl).trans r5⟩
theorem cmd_164 {h h0 : HP} {m : Nat} {v v0 : Nat → Int32} {l : List Int} {A k : Nat} {w : Bool} (hA : A < l.length) (e : RD h m v l A k w) (hv : ∀ i : Nat, i < 12 → v i = v0 i) (o : OFF m 1 h0 h) {x : Int32} (hk : ((sgn l A = 112 ∨ sgn l A = 120) ∧ k = 2) ∨ (sgn l A ≠ 112 ∧ sgn l A ≠ 120 ∧ nd (sgn l A) = k)) (h14 : w = false → v 14 = zI (sgn l A) ∧ x = zI (oneC l A)) : WP (b_X8_command_164 m h (zI (sgn l A)) m x) (CMDR m v0 l A h0) := by
  have hb := RTX_b e.2.1
  have hs := hb.2 A
  unfold b_X8_command_164
  refine wpb (RD_v e (i := 15) (by omega)) ?_
  rintro h1 ⟨q1, q2⟩
  have hv1 : ∀ i : Nat, i < 12 → upd v 15 x i = v0 i := fun i hi => (upd_ne (by omega)).trans (hv i hi)
  have f180 : sgn l A = 112 ∨ sgn l A = 120 → k = 2 → WP (b_X8_command_180 m h1 (zI (sgn l A)) m) (CMDR m v0 l A h0) := by
    intro k1 k2
    unfold b_X8_command_180
    refine wpb (key_ch hA q1 (fun i hi => okB_any (by omega) (by omega) (fun _ => by omega))) ?_
    rintro ⟨y, h2⟩ ⟨v2, w2, e2, g1, g2, o2⟩
    refine cmd_188 hA e2 (fun i hi => (g2 i (by omega) (by omega)).trans (hv1 i hi)) (OFF_trans o (OFF_trans q2 o2)) ?_ (fun hw => ?_)
    · by_cases c : sgn l A = 112
      · exact Or.inl ⟨c, by omega⟩
      · refine Or.inr ⟨c, ?_⟩
        rw [show sgn l A = 120 by omega, k2]
        rfl
    · obtain ⟨r1, r2⟩ := g1 hw
      obtain ⟨r3, r4⟩ := h14 r1
      dsimp only at r2 ⊢
      refine ⟨(g2 14 (by omega) (by omega)).trans ((upd_ne (by omega)).trans r3), (g2 15 (by omega) (by omega)).trans ((upd_eq rfl).trans r4), ?_⟩
      rw [r2, show A + 1 + k = A + 3 by omega]
      by_cases c : sgn l A = 112
      · rw [if_pos c]
      · rw [if_neg c]
        unfold twoC
        rw [if_neg c, if_pos (by omega)]
  simp only [show (112 : Int32) = zI 112 by decide, show (120 : Int32) = zI 120 by decide]
  by_cases c1 : sgn l A = 112
  · refine wt ((zI_inj (by omega)).mpr c1) ?_
    exact f180 (Or.inl c1) (by omega)
  · refine wf (fun d => c1 ((zI_inj (by omega)).mp d)) ?_
    by_cases c2 : sgn l A = 120
    · refine wt ((zI_inj (by omega)).mpr c2) ?_
      exact f180 (Or.inr c2) (by omega)
    · refine wf (fun d => c2 ((zI_inj (by omega)).mp d)) ?_
      refine cmd_188 hA q1 hv1 (OFF_trans o q2) (Or.inr ⟨c1, by omega⟩) (fun hw => ?_)
      obtain ⟨r3, r4⟩ := h14 hw
      refine ⟨(upd_ne (by omega)).trans r3, (upd_eq rfl).trans r4, ?_⟩
      rw [if_neg c1, zl0]
      unfold twoC
      rw [if_neg c1, if_neg c2]
theorem nd_let (c : Int) : nd c ≠ -1 ↔ (c = 112 ∨ c = 120 ∨ c = 102 ∨ c = 109 ∨ c = 111 ∨ c = 99) := by
  unfold nd
  split
  · omega
  · split
    · omega
    · split
      · omega
      · split
        · omega
        · split
          · omega
          · split
            · omega
            · omega
theorem cmd_94 {h h0 : HP} {m : Nat} {v v0 : Nat → Int32} {l : List Int} {A : Nat} (hA : A < l.length) (e0 : MOB h m v) (t : RTX h m v l) (h13 : v 13 = 0) (hv : ∀ i : Nat, i < 12 → v i = v0 i) (o : OFF m 1 h0 h) (hn : nd (sgn l A) ≠ -1) : WP (b_X8_command_94 m h (zI (sgn l A)) m (zI A) 1) (CMDR m v0 l A h0) := by
  have hb := RTX_b t
  have hs := hb.2 A
  unfold b_X8_command_94
  rw [zl1, zI_add]
  refine wpb (pI_M e0 (by omega)) ?_
  rintro h1 ⟨q1, q2⟩
  refine wpb (pI_M q1 (by omega)) ?_
  rintro h2 ⟨q3, q4⟩
  have hR : RD h2 m (upd (upd v 12 (zI ((A : Int) + 1))) 14 (zI (sgn l A))) l A 0 false := by
    refine ⟨q3, RTX_mv t ((q4 _ (by omega)).trans (q2 _ (by omega))) ((upd_ne (by omega)).trans (upd_ne (by omega))), ?_, A + 1, ?_, by omega, Or.inl ⟨rfl, rfl, rfl⟩⟩
    · rw [upd_ne (by omega), upd_ne (by omega), h13, tB_0 (by decide)]
    · rw [upd_ne (by omega), upd_eq rfl]
      rfl
  have hv1 : ∀ i : Nat, i < 12 → upd (upd v 12 (zI ((A : Int) + 1))) 14 (zI (sgn l A)) i = v0 i := fun i hi => (upd_ne (by omega)).trans ((upd_ne (by omega)).trans (hv i hi))
  have h14 : upd (upd v 12 (zI ((A : Int) + 1))) 14 (zI (sgn l A)) 14 = zI (sgn l A) := upd_eq rfl
  have o2 := OFF_trans o (OFF_trans q2 q4)
  have f116 : sgn l A = 112 ∨ sgn l A = 120 → WP (b_X8_command_116 m h2 (zI (sgn l A)) m) (CMDR m v0 l A h0) := by
    intro k1
    unfold b_X8_command_116
    refine wpb (key_ch hA hR (fun i hi => okB_any (by omega) (by omega) (fun _ => by omega))) ?_
    rintro ⟨y, h3⟩ ⟨v2, w2, e2, g1, g2, o3⟩
    refine cmd_164 hA e2 (fun i hi => (g2 i (by omega) (by omega)).trans (hv1 i hi)) (OFF_trans o2 o3) (Or.inl ⟨k1, rfl⟩) (fun hw => ?_)
    obtain ⟨r1, r2⟩ := g1 hw
    dsimp only at r2 ⊢
    refine ⟨(g2 14 (by omega) (by omega)).trans h14, ?_⟩
    rw [r2]
    unfold oneC
    rw [if_pos k1]
  simp only [show (112 : Int32) = zI 112 by decide, show (120 : Int32) = zI 120 by decide, show (109 : Int32) = zI 109 by decide, show (99 : Int32) = zI 99 by decide, show (48 : Int32) = zI 48 by decide, show (52 : Int32) = zI 52 by decide, show (49 : Int32) = zI 49 by decide]
  by_cases c1 : sgn l A = 112
  · refine wt ((zI_inj (by omega)).mpr c1) ?_
    exact f116 (Or.inl c1)
  · refine wf (fun d => c1 ((zI_inj (by omega)).mp d)) ?_
    by_cases c2 : sgn l A = 120
    · refine wt ((zI_inj (by omega)).mpr c2) ?_
      exact f116 (Or.inr c2)
    · refine wf (fun d => c2 ((zI_inj (by omega)).mp d)) ?_
      by_cases c3 : sgn l A = 109
      · refine wt ((zI_inj (by omega)).mpr c3) ?_
        refine wpb (sign_ch hA hR (by omega) (fun _ => ?_)) ?_
        · unfold okB
          rw [c3, decide_eq_false (show ¬ (109 : Int) = 99 by omega), decide_eq_false (show ¬ (109 : Int) = 112 by omega), decide_eq_true (show (109 : Int) = 109 from rfl)]
          simp only [Bool.not_false, Bool.true_or, Bool.and_true, Bool.not_true, Bool.false_or, Bool.and_eq_true, decide_eq_true_eq]
          omega
        · rintro ⟨y, h3⟩ ⟨v2, w2, e2, g1, g2, o3⟩
          refine cmd_164 hA e2 (fun i hi => (g2 i (by omega) (by omega)).trans (hv1 i hi)) (OFF_trans o2 o3) (Or.inr ⟨c1, c2, by rw [c3]; rfl⟩) (fun hw => ?_)
          obtain ⟨r1, r2⟩ := g1 hw
          dsimp only at r2 ⊢
          refine ⟨(g2 14 (by omega) (by omega)).trans h14, ?_⟩
          rw [r2, zI_sub]
          unfold oneC
          rw [if_neg (by omega), if_pos (Or.inl c3)]
          rfl
      · refine wf (fun d => c3 ((zI_inj (by omega)).mp d)) ?_
        by_cases c4 : sgn l A = 99
        · refine wt ((zI_inj (by omega)).mpr c4) ?_
          refine wpb (sign_ch hA hR (by omega) (fun _ => ?_)) ?_
          · unfold okB
            rw [c4, decide_eq_false (show ¬ (99 : Int) = 109 by omega), decide_eq_false (show ¬ (99 : Int) = 112 by omega), decide_eq_true (show (99 : Int) = 99 from rfl)]
            simp only [Bool.not_false, Bool.true_or, Bool.and_true, Bool.not_true, Bool.false_or, Bool.and_eq_true, decide_eq_true_eq]
            omega
          · rintro ⟨y, h3⟩ ⟨v2, w2, e2, g1, g2, o3⟩
            refine cmd_164 hA e2 (fun i hi => (g2 i (by omega) (by omega)).trans (hv1 i hi)) (OFF_trans o2 o3) (Or.inr ⟨c1, c2, by rw [c4]; rfl⟩) (fun hw => ?_)
            obtain ⟨r1, r2⟩ := g1 hw
            dsimp only at r2 ⊢
            refine ⟨(g2 14 (by omega) (by omega)).trans h14, ?_⟩
            rw [r2, zI_sub]
            unfold oneC
            rw [if_neg (by omega), if_pos (Or.inr c4)]
            rfl
        · refine wf (fun d => c4 ((zI_inj (by omega)).mp d)) ?_
          rw [zl0]
          refine cmd_164 hA hR hv1 o2 (Or.inr ⟨c1, c2, ?_⟩) (fun hw => ⟨h14, ?_⟩)
          · have hL := (nd_let (sgn l A)).mp hn
            have : sgn l A = 102 ∨ sgn l A = 111 := by omega
            rcases this with c | c
            · rw [c]
              rfl
            · rw [c]
              rfl
          · unfold oneC
            rw [if_neg (by omega), if_neg (by omega)]
theorem X8_command_is {h : HP} {m : Nat} {v : Nat → Int32} {l : List Int} {A : Nat} (hA : A < l.length) (e : MOB h m v) (t : RTX h m v l) (h12 : v 12 = zI A) (h13 : v 13 = 0) : WP (f_X8_command h m) (CMDR m v l A h) := by
  have hb := RTX_b t
  have hs := hb.2 A
  have t2 := t
  obtain ⟨t0, f, t1, t3, t4, t5⟩ := t2
  unfold f_X8_command b_X8_command_0
  refine wb (kO_e e) ?_
  refine wb (gI_e e rfl) ?_
  refine wb (gI_e e rfl) ?_
  rw [h12, t0]
  refine wf (fun d => absurd ((zI_le (by omega)).mp d) (by omega)) ?_
  refine wb (gR_e e rfl) ?_
  refine wb (gI_e e rfl) ?_
  rw [h12]
  refine wb (aI_e t1 (by omega)) ?_
  rw [CLU_at t3 (by omega), show iat l A = sgn l A by unfold sgn; rw [if_pos (by omega)]]
  have hL := nd_let (sgn l A)
  have f0 : nd (sgn l A) ≠ -1 → WP (b_X8_command_74 m h (zI (sgn l A)) m 0) (CMDR m v l A h) := by
    intro hn
    unfold b_X8_command_74
    rw [← tB_0 (p := false = true) (by decide)]
    refine wb bz_tB ?_
    refine wpb (pI_M e (by omega)) ?_
    rintro h1 ⟨q1, q2⟩
    refine wb (gI_e q1 rfl) ?_
    refine wb (gI_e q1 rfl) ?_
    rw [upd_eq (show (13 : Nat) = 13 from rfl), upd_ne (show (12 : Nat) ≠ 13 by omega), h12]
    refine wt rfl ?_
    exact cmd_94 hA q1 (RTX_mv t (q2 _ (by omega)) (upd_ne (by omega))) ((upd_eq rfl).trans (tB_0 (by decide))) (fun i hi => upd_ne (by omega)) q2 hn
  have f1 : nd (sgn l A) = -1 → WP (b_X8_command_74 m h (zI (sgn l A)) m 1) (CMDR m v l A h) := by
    intro hn
    have hbad : bad l A = A := by
      unfold bad
      rw [if_pos hn]
    unfold b_X8_command_74
    rw [← tB_1 (p := true = true) rfl]
    refine wb bz_tB ?_
    refine wpb (pI_M e (by omega)) ?_
    rintro h1 ⟨q1, q2⟩
    refine wb (gI_e q1 rfl) ?_
    refine wb (gI_e q1 rfl) ?_
    rw [upd_eq (show (13 : Nat) = 13 from rfl), upd_ne (show (12 : Nat) ≠ 13 by omega), h12]
    refine wf (by decide) ?_
    have n1 : ¬ sgn l A = 112 := by omega
    have n2 : ¬ sgn l A = 120 := by omega
    have n3 : ¬ sgn l A = 109 := by omega
    have n4 : ¬ sgn l A = 99 := by omega
    unfold b_X8_command_94 b_X8_command_164 b_X8_command_188 b_X8_command_236
    simp only [show (112 : Int32) = zI 112 by decide, show (120 : Int32) = zI 120 by decide, show (109 : Int32) = zI 109 by decide, show (99 : Int32) = zI 99 by decide, zl0, zI_add]
    refine wpb (pI_M q1 (by omega)) ?_
    rintro h2 ⟨q3, q4⟩
    refine wpb (pI_M q3 (by omega)) ?_
    rintro h3 ⟨q5, q6⟩
    refine wf (fun d => n1 ((zI_inj (by omega)).mp d)) ?_
    refine wf (fun d => n2 ((zI_inj (by omega)).mp d)) ?_
    refine wf (fun d => n3 ((zI_inj (by omega)).mp d)) ?_
    refine wf (fun d => n4 ((zI_inj (by omega)).mp d)) ?_
    refine wpb (pI_M q5 (by omega)) ?_
    rintro h4 ⟨q7, q8⟩
    refine wf (fun d => n1 ((zI_inj (by omega)).mp d)) ?_
    refine wf (fun d => n2 ((zI_inj (by omega)).mp d)) ?_
    refine wpb (pI_M q7 (by omega)) ?_
    rintro h5 ⟨q9, q10⟩
    refine wf (fun d => n1 ((zI_inj (by omega)).mp d)) ?_
    refine wb (gI_e q9 rfl) ?_
    refine wpb (pI_M q9 (by omega)) ?_
    rintro h6 ⟨q11, q12⟩
    have o := OFF_trans q2 (OFF_trans q4 (OFF_trans q6 (OFF_trans q8 (OFF_trans q10 q12))))
    refine wr ⟨_, q11, RTX_mv t (o _ (by omega)) ?_, fun i hi => ?_, o, fun d => by omega, fun _ => ⟨?_, ?_⟩⟩
    · rw [upd_ne (by omega), upd_ne (by omega), upd_ne (by omega), upd_ne (by omega), upd_ne (by omega), upd_ne (by omega)]
    · rw [upd_ne (by omega), upd_ne (by omega), upd_ne (by omega), upd_ne (by omega), upd_ne (by omega), upd_ne (by omega)]
    · rw [upd_ne (by omega), upd_ne (by omega), upd_ne (by omega), upd_ne (by omega), upd_eq rfl, hbad, Int.add_zero]
    · rw [upd_ne (by omega), upd_ne (by omega), upd_ne (by omega), upd_ne (by omega), upd_ne (by omega), upd_eq rfl]
      exact tB_1 rfl
  unfold b_X8_command_24
  refine wb (gI_e e rfl) ?_
  rw [h13]
  refine wt rfl ?_
  simp only [show (112 : Int32) = zI 112 by decide, show (120 : Int32) = zI 120 by decide, show (109 : Int32) = zI 109 by decide, show (99 : Int32) = zI 99 by decide, show (102 : Int32) = zI 102 by decide, show (111 : Int32) = zI 111 by decide]
  by_cases c1 : sgn l A = 112
  · exact wt ((zI_inj (by omega)).mpr c1) (f0 (by omega))
  · refine wf (fun d => c1 ((zI_inj (by omega)).mp d)) ?_
    by_cases c2 : sgn l A = 120
    · exact wt ((zI_inj (by omega)).mpr c2) (f0 (by omega))
    · refine wf (fun d => c2 ((zI_inj (by omega)).mp d)) ?_
      by_cases c3 : sgn l A = 102
      · exact wt ((zI_inj (by omega)).mpr c3) (f0 (by omega))
      · refine wf (fun d => c3 ((zI_inj (by omega)).mp d)) ?_
        by_cases c4 : sgn l A = 109
        · exact wt ((zI_inj (by omega)).mpr c4) (f0 (by omega))
        · refine wf (fun d => c4 ((zI_inj (by omega)).mp d)) ?_
          by_cases c5 : sgn l A = 111
          · exact wt ((zI_inj (by omega)).mpr c5) (f0 (by omega))
          · refine wf (fun d => c5 ((zI_inj (by omega)).mp d)) ?_
            by_cases c6 : sgn l A = 99
            · exact wt ((zI_inj (by omega)).mpr c6) (f0 (by omega))
            · exact wf (fun d => c6 ((zI_inj (by omega)).mp d)) (f1 (by omega))
