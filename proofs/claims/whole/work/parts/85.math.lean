/-! scripts, on both sides -/
theorem does_290 {h h0 : HP} {m : Nat} {v : Nat → Int32} {S : SG} {R : List SG × (Option SG × Option SG) × List Int} (e : RFV h m v (S, R)) {M : Int} (H : GOK S M) {v0 : Nat → Int32} (hv : ∀ i : Nat, i < 10 → v i = v0 i) (o : OF4 m h0 h) {c one two : Int} (hc : v 14 = zI c) (hr : (-1000 < c ∧ c < 1000) ∧ (-1000 < one ∧ one < 1000) ∧ -1000 < two ∧ two < 1000) {q : Option SG} (hq : q = if c = 63 then none else cmdS c one two S) : WP (b_X8_doesWell_290 m h (zI two) m (zI one)) (fun r => r.1 = tB (q.isSome = true) ∧ (∃ w, RFV r.2 m w (q.getD S, R) ∧ ∀ i : Nat, i < 10 → w i = v0 i) ∧ OF4 m h0 r.2) := by
  subst hq
  unfold b_X8_doesWell_290
  refine wpb (pI_M e.1 (by omega)) ?_
  rintro h1 ⟨q1, q2⟩
  refine wpb (pI_M q1 (by omega)) ?_
  rintro h2 ⟨q3, q4⟩
  have o2 : OF4 m h h2 := OF4_0 (OFF_trans q2 q4)
  have hv2 : ∀ i : Nat, i < 10 → upd (upd v 15 (zI one)) 16 (zI two) i = v0 i := fun i hi => (upd_ne (by omega)).trans ((upd_ne (by omega)).trans (hv i hi))
  have e2 : RFV h2 m (upd (upd v 15 (zI one)) 16 (zI two)) (S, R) := RFV_0 e (OFF_trans q2 q4) q3 ((upd_ne (by omega)).trans (upd_ne (by omega))) ((upd_ne (by omega)).trans (upd_ne (by omega)))
  refine wb (gI_e q3 rfl) ?_
  have h14 : upd (upd v 15 (zI one)) 16 (zI two) 14 = zI c := (upd_ne (by omega)).trans ((upd_ne (by omega)).trans hc)
  rw [h14, show (63 : Int32) = zI 63 by decide]
  by_cases c1 : c = 63
  · refine wt ((zI_inj (by omega)).mpr c1) ?_
    rw [if_pos c1]
    exact wr ⟨(tB_0 (by simp)).symm, ⟨_, e2, hv2⟩, OF4_trans o o2⟩
  · refine wf (fun d => c1 ((zI_inj (by omega)).mp d)) ?_
    rw [if_neg c1]
    refine wpb (X8_does_is e2.1 e2.2.1 e2.2.2.1 H h14 ((upd_ne (by omega)).trans (upd_eq rfl)) (upd_eq rfl) (by omega)) ?_
    rintro ⟨y, h3⟩ ⟨g1, ⟨z, g2⟩, g3, g4, g5⟩
    dsimp only at g1 g2 g3 g4 g5 ⊢
    subst g1
    have e3 : RFV h3 m _ ((cmdS c one two S).getD S, R) := RFV_4 e2 g5 g2 (upd_ne (by omega)) (upd_ne (by omega)) g3 g4
    have hv3 : ∀ i : Nat, i < 10 → upd (upd (upd v 15 (zI one)) 16 (zI two)) 10 z i = v0 i := fun i hi => (upd_ne (by omega)).trans (hv2 i hi)
    by_cases c2 : (cmdS c one two S).isSome = true
    · rw [tB_1 c2]
      refine wf (by decide) ?_
      exact wr ⟨rfl, ⟨_, e3, hv3⟩, OF4_trans o (OF4_trans o2 g5)⟩
    · rw [tB_0 c2]
      refine wt rfl ?_
      exact wr ⟨rfl, ⟨_, e3, hv3⟩, OF4_trans o (OF4_trans o2 g5)⟩
theorem RFV_14 {h : HP} {m : Nat} {v : Nat → Int32} {A : AB} (e : RFV h m v A) (c : Int32) : WP (pI 8 14 h m c) (fun h' => RFV h' m (upd v 14 c) A ∧ (∀ i : Nat, i < 10 → upd v 14 c i = v i) ∧ OF4 m h h') := by
  refine wm (pI_M e.1 (by omega)) ?_
  rintro h1 ⟨q1, q2⟩
  exact ⟨RFV_0 e q2 q1 (upd_ne (by omega)) (upd_ne (by omega)), fun i hi => upd_ne (by omega), OF4_0 q2⟩
theorem R_group {h : HP} {m : Nat} {v : Nat → Int32} {S : SG} {R : List SG × (Option SG × Option SG) × List Int} (e : RFV h m v (S, R)) {M : Int} (H : GOK S M) {g : Nat} (hg : g < 100000) : WP (f_X8_doesWell h m (zI (g / 10000 : Nat)) (zI g)) (fun r => r.1 = tB ((doG S g).isSome = true) ∧ (∃ w, RFV r.2 m w ((doG S g).getD S, R) ∧ ∀ i : Nat, i < 10 → w i = v i) ∧ OF4 m h r.2) := by
  have hS := H.2
  have eS : REF h m S := e.2.1
  unfold SML at hS
  have hMM := H.1.2.2.2.2.2.1
  have hv := fun (k i : Int) => vw_rng H.1 k i
  have sn : ∀ (k : Nat) (i : Int), k < 100 → (-1 ≤ i ∧ i < S.2.2.1.length) → f_X8_seen h m (zI k) (zI i) = some (zI (if vw S k i = 0 then -1 else vw S k i)) := fun k i hk hi => X8_seen_is e.2.1 H.1.1 H.1.2.1 (SOK_Y H.1) ⟨hMM.1, hMM.2.1⟩ hMM.2.2 (by omega) hi
  have yes : WP (some ((1 : Int32), h)) (fun r => r.1 = tB ((some S).isSome = true) ∧ (∃ w, RFV r.2 m w ((some S).getD S, R) ∧ ∀ i : Nat, i < 10 → w i = v i) ∧ OF4 m h r.2) := wr ⟨(tB_1 (show (some S).isSome = true from rfl)).symm, ⟨_, e, fun _ _ => rfl⟩, OF4_0 (OFF_refl _ _ _)⟩
  have no : WP (some ((0 : Int32), h)) (fun r => r.1 = tB ((none : Option SG).isSome = true) ∧ (∃ w, RFV r.2 m w ((none : Option SG).getD S, R) ∧ ∀ i : Nat, i < 10 → w i = v i) ∧ OF4 m h r.2) := wr ⟨(tB_0 (by simp)).symm, ⟨_, e, fun _ _ => rfl⟩, OF4_0 (OFF_refl _ _ _)⟩
  have cm : ∀ (a : Nat) (c : Int) (q : Option SG), a < 10 → (-1000 < c ∧ c < 1000) → (q = if c = 63 then none else cmdS c (if 3 ≤ a then (g / 1000 % 10 : Nat) else (g / 100 % 100 : Nat) : Int) (g % 100 : Nat) S) → WP ((pI 8 14 h m (zI c)).bind fun h1 => b_X8_doesWell_278 m (zI a) h1 (zI (g / 100 % 100 : Nat)) (zI (g % 100 : Nat)) (zI (g / 1000 % 10 : Nat))) (fun r => r.1 = tB (q.isSome = true) ∧ (∃ w, RFV r.2 m w (q.getD S, R) ∧ ∀ i : Nat, i < 10 → w i = v i) ∧ OF4 m h r.2) := by
    intro a c q ha hc hq
    refine wpb (RFV_14 e (zI c)) ?_
    rintro h1 ⟨q1, q2, q3⟩
    unfold b_X8_doesWell_278
    rw [show (3 : Int32) = zI (3 : Nat) by decide]
    by_cases c3 : 3 ≤ a
    · rw [if_pos c3] at hq
      refine wt ((zI_le (by omega)).mpr (by omega)) ?_
      exact does_290 q1 H q2 q3 (upd_eq rfl) (by omega) hq
    · rw [if_neg c3] at hq
      refine wf (fun b => absurd ((zI_le (by omega)).mp b) (by omega)) ?_
      exact does_290 q1 H q2 q3 (upd_eq rfl) (by omega) hq
  unfold f_X8_doesWell b_X8_doesWell_0
  refine wb (kO_e e.1) ?_
  simp only [show (10000 : Int32) = zI (10000 : Nat) by decide, show (1000 : Int32) = zI (1000 : Nat) by decide, show (100 : Int32) = zI (100 : Nat) by decide, show (10 : Int32) = zI (10 : Nat) by decide]
  rw [zI_div (a := g) (b := 1000) (by omega) (by omega), zI_div (a := g) (b := 100) (by omega) (by omega), zI_jrem (a := g) (b := 1000) (by omega) (by omega), zI_jrem (a := g) (b := 100) (by omega) (by omega), zI_jrem (a := g / 1000) (b := 10) (by omega) (by omega), zI_jrem (a := g / 100) (b := 100) (by omega) (by omega)]
  have main : ∀ w : Bool, w = decide (g % 1000 = 0) → WP (b_X8_doesWell_37 m (zI (g / 10000 : Nat)) (zI g) h (zI (g / 100 % 100 : Nat)) (zI (g % 100 : Nat)) (zI (g / 1000 % 10 : Nat)) (tB (w = true))) (fun r => r.1 = tB ((doG S g).isSome = true) ∧ (∃ w, RFV r.2 m w ((doG S g).getD S, R) ∧ ∀ i : Nat, i < 10 → w i = v i) ∧ OF4 m h r.2) := by
    intro w hw
    unfold b_X8_doesWell_37 b_X8_doesWell_126 b_X8_doesWell_145 b_X8_doesWell_167 b_X8_doesWell_186 b_X8_doesWell_209 doG
    simp only [show (10000 : Int32) = zI (10000 : Nat) by decide, show (100 : Int32) = zI (100 : Nat) by decide, show (10 : Int32) = zI (10 : Nat) by decide, show (2 : Int32) = zI (2 : Nat) by decide, show (3 : Int32) = zI (3 : Nat) by decide, show (4 : Int32) = zI (4 : Nat) by decide, show (5 : Int32) = zI (5 : Nat) by decide, show (6 : Int32) = zI (6 : Nat) by decide, show (7 : Int32) = zI (7 : Nat) by decide, show (8 : Int32) = zI (8 : Nat) by decide, show (9 : Int32) = zI (9 : Nat) by decide, show (112 : Int32) = zI 112 by decide, show (120 : Int32) = zI 120 by decide, show (102 : Int32) = zI 102 by decide, show (63 : Int32) = zI 63 by decide, show (109 : Int32) = zI 109 by decide, show (111 : Int32) = zI 111 by decide, show (99 : Int32) = zI 99 by decide, show (-1 : Int32) = zI (-1) by decide]
    rw [zI_div (a := g) (b := 10) (by omega) (by omega), zI_jrem (a := g) (b := 10000) (by omega) (by omega), zI_jrem (a := g) (b := 10) (by omega) (by omega), zI_jrem (a := g / 10) (b := 100) (by omega) (by omega)]
    by_cases c1 : g / 10000 = 1
    · rw [if_pos c1]
      refine wt ((zIn (b := 1) (by omega) (by omega)).mpr c1) ?_
      exact cm (g / 10000) 112 _ (by omega) (by omega) (by rw [if_neg (show ¬ ((112 : Int) = 63) by omega), if_neg (show ¬ 3 ≤ g / 10000 by omega)]; rfl)
    · rw [if_neg c1]
      refine wf (fun b => c1 ((zIn (b := 1) (by omega) (by omega)).mp b)) ?_
      by_cases c2 : g / 10000 = 2
      · rw [if_pos c2]
        refine wt ((zIn (b := 2) (by omega) (by omega)).mpr c2) ?_
        exact cm (g / 10000) 120 _ (by omega) (by omega) (by rw [if_neg (show ¬ ((120 : Int) = 63) by omega), if_neg (show ¬ 3 ≤ g / 10000 by omega)]; rfl)
      · rw [if_neg c2]
        refine wf (fun b => c2 ((zIn (b := 2) (by omega) (by omega)).mp b)) ?_
        by_cases c3 : g / 10000 = 3
        · rw [if_pos c3]
          refine wt ((zIn (b := 3) (by omega) (by omega)).mpr c3) ?_
          by_cases d : g % 10000 = 0
          · rw [if_pos d]
            refine wt ((zIn (b := 0) (by omega) (by omega)).mpr d) ?_
            exact cm (g / 10000) 102 _ (by omega) (by omega) (by rw [if_neg (show ¬ ((102 : Int) = 63) by omega)]; rfl)
          · rw [if_neg d]
            refine wf (fun b => d ((zIn (b := 0) (by omega) (by omega)).mp b)) ?_
            exact cm (g / 10000) 63 _ (by omega) (by omega) (by rw [if_pos rfl])
        · rw [if_neg c3]
          refine wf (fun b => c3 ((zIn (b := 3) (by omega) (by omega)).mp b)) ?_
          by_cases c4 : g / 10000 = 4
          · rw [if_pos c4]
            refine wt ((zIn (b := 4) (by omega) (by omega)).mpr c4) ?_
            by_cases d : g % 1000 = 0
            · rw [if_pos d, tB_1 (p := w = true) (by rw [hw]; exact decide_eq_true d)]
              refine wf (by decide) ?_
              exact cm (g / 10000) 109 _ (by omega) (by omega) (by rw [if_neg (show ¬ ((109 : Int) = 63) by omega), if_pos (show 3 ≤ g / 10000 by omega)]; rfl)
            · rw [if_neg d, tB_0 (p := w = true) (by rw [hw]; simp [d])]
              refine wt rfl ?_
              exact cm (g / 10000) 63 _ (by omega) (by omega) (by rw [if_pos rfl])
          · rw [if_neg c4]
            refine wf (fun b => c4 ((zIn (b := 4) (by omega) (by omega)).mp b)) ?_
            by_cases c5 : g / 10000 = 5
            · rw [if_pos c5]
              refine wt ((zIn (b := 5) (by omega) (by omega)).mpr c5) ?_
              by_cases d : g % 10000 = 0
              · rw [if_pos d]
                refine wt ((zIn (b := 0) (by omega) (by omega)).mpr d) ?_
                exact cm (g / 10000) 111 _ (by omega) (by omega) (by rw [if_neg (show ¬ ((111 : Int) = 63) by omega)]; rfl)
              · rw [if_neg d]
                refine wf (fun b => d ((zIn (b := 0) (by omega) (by omega)).mp b)) ?_
                exact cm (g / 10000) 63 _ (by omega) (by omega) (by rw [if_pos rfl])
            · rw [if_neg c5]
              refine wf (fun b => c5 ((zIn (b := 5) (by omega) (by omega)).mp b)) ?_
              by_cases c6 : g / 10000 = 6
              · rw [if_pos c6]
                refine wt ((zIn (b := 6) (by omega) (by omega)).mpr c6) ?_
                by_cases d : g % 1000 = 0
                · rw [if_pos d, tB_1 (p := w = true) (by rw [hw]; exact decide_eq_true d)]
                  refine wf (by decide) ?_
                  exact cm (g / 10000) 99 _ (by omega) (by omega) (by rw [if_neg (show ¬ ((99 : Int) = 63) by omega), if_pos (show 3 ≤ g / 10000 by omega)]; rfl)
                · rw [if_neg d, tB_0 (p := w = true) (by rw [hw]; simp [d])]
                  refine wt rfl ?_
                  exact cm (g / 10000) 63 _ (by omega) (by omega) (by rw [if_pos rfl])
              · rw [if_neg c6]
                refine wf (fun b => c6 ((zIn (b := 6) (by omega) (by omega)).mp b)) ?_
                by_cases c7 : g / 10000 = 7
                · rw [if_pos c7]
                  refine wt ((zIn (b := 7) (by omega) (by omega)).mpr c7) ?_
                  refine wb (sn _ (-1) (by omega) (by omega)) ?_
                  have hv1 := hv ((g / 100 % 100 : Nat) : Int) (-1)
                  by_cases d : vw S (g / 100 % 100 : Nat) (-1) = (g % 100 : Nat)
                  · rw [if_pos d, d]
                    by_cases d2 : g % 100 = 0
                    · refine wt ((zIn (b := 0) (by omega) (by omega)).mpr d2) ?_
                      rw [if_pos (show ((g % 100 : Nat) : Int) = 0 by omega)]
                      refine wt (by first | trivial | rfl) ?_
                      exact yes
                    · refine wf (fun b => d2 ((zIn (b := 0) (by omega) (by omega)).mp b)) ?_
                      rw [if_neg (show ¬ ((g % 100 : Nat) : Int) = 0 by omega)]
                      refine wt (by first | trivial | rfl) ?_
                      exact yes
                  · rw [if_neg d]
                    by_cases d2 : g % 100 = 0
                    · refine wt ((zIn (b := 0) (by omega) (by omega)).mpr d2) ?_
                      rw [if_neg (show ¬ vw S (g / 100 % 100 : Nat) (-1) = 0 by omega)]
                      refine wf (fun b => absurd ((zI_inj (by omega)).mp b) (by omega)) ?_
                      exact no
                    · refine wf (fun b => d2 ((zIn (b := 0) (by omega) (by omega)).mp b)) ?_
                      have d3 : (if vw S (g / 100 % 100 : Nat) (-1) = 0 then -1 else vw S (g / 100 % 100 : Nat) (-1)) ≠ ((g % 100 : Nat) : Int) ∧ -1000 < (if vw S (g / 100 % 100 : Nat) (-1) = 0 then -1 else vw S (g / 100 % 100 : Nat) (-1)) ∧ (if vw S (g / 100 % 100 : Nat) (-1) = 0 then -1 else vw S (g / 100 % 100 : Nat) (-1)) < 1000 := by
                        split <;> omega
                      refine wf (fun b => d3.1 ((zI_inj (by omega)).mp b)) ?_
                      exact no
                · rw [if_neg c7]
                  refine wf (fun b => c7 ((zIn (b := 7) (by omega) (by omega)).mp b)) ?_
                  by_cases c8 : g / 10000 = 8
                  · rw [if_pos c8]
                    refine wt ((zIn (b := 8) (by omega) (by omega)).mpr c8) ?_
                    by_cases d : g / 100 % 100 = 0
                    · rw [if_pos d]
                      refine wt ((zIn (b := 0) (by omega) (by omega)).mpr d) ?_
                      refine wb (X8_all_is eS) ?_
                      by_cases d1 : S.1.length ≤ g % 100
                      · rw [if_pos d1]
                        refine wf (fun b => absurd ((zI_lt (by omega)).mp b) (by omega)) ?_
                        exact yes
                      · rw [if_neg d1]
                        refine wt ((zI_lt (by omega)).mpr (by omega)) ?_
                        exact no
                    · rw [if_neg d]
                      refine wf (fun b => d ((zIn (b := 0) (by omega) (by omega)).mp b)) ?_
                      exact no
                  · rw [if_neg c8]
                    refine wf (fun b => c8 ((zIn (b := 8) (by omega) (by omega)).mp b)) ?_
                    by_cases c9 : g / 10000 = 9
                    · rw [if_pos c9]
                      refine wt ((zIn (b := 9) (by omega) (by omega)).mpr c9) ?_
                      by_cases d : g % 10 = 0
                      · rw [if_pos d]
                        refine wt ((zIn (b := 0) (by omega) (by omega)).mpr d) ?_
                        refine wb (X8_isEye_is eS (by omega)) ?_
                        by_cases d1 : g / 1000 % 10 < S.2.2.1.length
                        · rw [if_pos d1, tB_1 (by omega)]
                          refine wf (by decide) ?_
                          refine wb (sn _ _ (by omega) (by omega)) ?_
                          have hv1 := hv ((g / 10 % 100 : Nat) : Int) ((g / 1000 % 10 : Nat) : Int)
                          by_cases d2 : vw S (g / 10 % 100 : Nat) (g / 1000 % 10 : Nat) = 0
                          · rw [if_neg (show ¬ (vw S (g / 10 % 100 : Nat) (g / 1000 % 10 : Nat) ≠ 0) by omega), if_pos d2]
                            refine wt (by first | trivial | rfl) ?_
                            exact no
                          · rw [if_pos d2, if_neg d2]
                            refine wf (fun b => absurd ((zI_inj (by omega)).mp b) (by omega)) ?_
                            exact yes
                        · rw [if_neg d1, tB_0 (by omega)]
                          refine wt rfl ?_
                          exact no
                      · rw [if_neg d]
                        refine wf (fun b => d ((zIn (b := 0) (by omega) (by omega)).mp b)) ?_
                        exact no
                    · rw [if_neg c9]
                      refine wf (fun b => c9 ((zIn (b := 9) (by omega) (by omega)).mp b)) ?_
                      exact no
  by_cases d : g % 1000 = 0
  · refine wt ((zIn (b := 0) (by omega) (by omega)).mpr d) ?_
    have := main true (decide_eq_true d).symm
    rw [tB_1 (p := true = true) rfl] at this
    exact this
  · refine wf (fun b => d ((zIn (b := 0) (by omega) (by omega)).mp b)) ?_
    have := main false (decide_eq_false d).symm
    rw [tB_0 (p := false = true) (by decide)] at this
    exact this
/-! a whole script -/
def scr (z n : Nat) : Nat → Nat → SG → Int
  | 0, _, _ => -1
  | r + 1, t, S => match doG S (z / 100000 ^ (n - 1 - t) % 100000) with
    | none => t
    | some T => scr z n r (t + 1) T
def xScript (A : AB) (n : Int) (w : Int64) : Int × Int × AB := if ¬ ((1 ≤ n ∧ n ≤ 3) ∧ 0 ≤ w.toInt ∧ w.toInt.toNat < 100000 ^ n.toNat) then (1, 0, A) else (0, scr w.toInt.toNat n.toNat n.toNat 0 A.1, A)
theorem xScript_0 {A : AB} {n : Int} {w : Int64} (h : ¬ ((1 ≤ n ∧ n ≤ 3) ∧ 0 ≤ w.toInt ∧ w.toInt.toNat < 100000 ^ n.toNat)) : xScript A n w = (1, 0, A) := if_pos h
theorem xScript_1 {A : AB} {n : Int} {w : Int64} (h : (1 ≤ n ∧ n ≤ 3) ∧ 0 ≤ w.toInt ∧ w.toInt.toNat < 100000 ^ n.toNat) : xScript A n w = (0, scr w.toInt.toNat n.toNat n.toNat 0 A.1, A) := if_neg (fun d => d h)
theorem wl_loop (h : HP) {k : Nat} (hk : k < 10) : ∀ (r n j y : Nat), r < n → j + r = k → y < 9223372036854775808 → b_X7_withoutLast_5 h (zI k) n (zJ y) (zI j) = some (zJ (y / 100000 ^ r)) := by
  intro r
  induction r with
  | zero =>
    intro n j y hn hj hy
    obtain ⟨n, rfl⟩ : ∃ k, n = k + 1 := ⟨n - 1, by omega⟩
    unfold b_X7_withoutLast_5 c_X7_withoutLast_5
    rw [if_pos ((zI_le (by omega)).mpr (by omega)), Nat.pow_zero, Nat.div_one]
  | succ r ih =>
    intro n j y hn hj hy
    obtain ⟨n, rfl⟩ : ∃ k, n = k + 1 := ⟨n - 1, by omega⟩
    have h1 : y / 100000 ≤ y := Nat.div_le_self _ _
    unfold b_X7_withoutLast_5 c_X7_withoutLast_5
    rw [if_neg (fun d => absurd ((zI_le (by omega)).mp d) (by omega)), show (100000 : Int64) = zJ 100000 from rfl, zJ_div hy (by omega), zl1, zI_add, ← cast1, ih n (j + 1) _ (by omega) (by omega) (by omega), Nat.div_div_eq_div_mul, Nat.pow_succ', Nat.mul_comm 100000]
theorem X7_withoutLast_is (h : HP) {k : Nat} (hk : k < 10) {y : Nat} (hy : y < 9223372036854775808) : f_X7_withoutLast h (zI k) (zJ y) = some (zJ (y / 100000 ^ k)) := by
  unfold f_X7_withoutLast b_X7_withoutLast_0
  exact wl_loop h hk k FU 0 y (by unfold FU; omega) (by omega) hy
theorem C_scrL {x : Nat} {A : AB} {Mz : Int} (hMz : Mz < 1000000) {z k : Nat} (hz : z < 9223372036854775808) (hk : k ≤ 3) {h0 : HP} : ∀ (r n : Nat) (h : HP) (t : Nat) (S : SG), r < n → t + r = k → CLS h x A → STO h (x + 1) (x + 169) 148 S → GOK S (Mz - r) → OFF x 311 h0 h → WP (b_X7_runScript_62 x (zI k) (zJ z) n h (zI t)) (fun r' => r'.1 = .inl (zI (scr z k r t S)) ∧ CLS r'.2 x A ∧ OFF x 311 h0 r'.2) := by
  intro r
  induction r with
  | zero =>
    intro n h t S hn ht e s H o
    obtain ⟨n, rfl⟩ : ∃ k, n = k + 1 := ⟨n - 1, by omega⟩
    unfold b_X7_runScript_62 c_X7_runScript_62
    refine wt ((zI_le (by omega)).mpr (by omega)) ?_
    exact wr ⟨rfl, e, o⟩
  | succ r ih =>
    intro n h t S hn ht e s H o
    obtain ⟨n, rfl⟩ : ∃ k, n = k + 1 := ⟨n - 1, by omega⟩
    have h1 : z / 100000 ^ (k - 1 - t) ≤ z := Nat.div_le_self _ _
    have h2 := Nat.mod_lt (z / 100000 ^ (k - 1 - t)) (show 0 < 100000 by omega)
    unfold b_X7_runScript_62 c_X7_runScript_62
    refine wf (fun d => absurd ((zI_le (by omega)).mp d) (by omega)) ?_
    rw [zl1, zI_sub, zI_sub, show (k : Int) - 1 - t = ((k - 1 - t : Nat) : Int) by omega]
    refine wb (X7_withoutLast_is h (by omega) hz) ?_
    rw [show (100000 : Int64) = zJ 100000 from rfl, zJ_rem (by omega) (by omega), zJ_32 (by omega)]
    refine wpb (C_group e s H h2) ?_
    rintro ⟨y, h3⟩ ⟨q1, q2, q3, q4⟩
    dsimp only at q1 q2 q3 q4 ⊢
    subst q1
    have hs : scr z k (r + 1) t S = match doG S (z / 100000 ^ (k - 1 - t) % 100000) with
      | none => (t : Int)
      | some T => scr z k r (t + 1) T := rfl
    have hok := doG_ok H (by omega) (z / 100000 ^ (k - 1 - t) % 100000)
    rw [hs]
    cases hd : doG S (z / 100000 ^ (k - 1 - t) % 100000) with
    | none =>
      rw [tB_0 (by simp)]
      refine wt rfl ?_
      exact wr ⟨rfl, q2, OFF_trans o q4⟩
    | some T =>
      rw [tB_1 (by rfl)]
      refine wf (by decide) ?_
      rw [hd] at q3 hok
      have := ih n h3 (t + 1) T (by omega) (by omega) q2 q3 (GOK_up hok (by omega)) (OFF_trans o q4)
      rw [cast1] at this
      rw [zI_add]
      exact this
theorem C_script {h : HP} {x : Nat} {A : AB} (e : CLS h x A) {M : Int} (H : GOK A.1 M) (hM : M + 3 < 1000000) {n : Int} (hn : -2147483648 ≤ n ∧ n < 2147483648) (w : Int64) : WP (f_X7_runScript h x (zI n) w) (CLR7 x (xScript A n w).2.2 [IAE] (xScript A n w).1 (xScript A n w).2.1 h) := by
  have g := CLS_g e
  have hS := H.2
  unfold SML at hS
  unfold f_X7_runScript b_X7_runScript_0 b_X7_runScript_10 b_X7_runScript_37 xScript
  simp only [zl1, show (3 : Int32) = zI 3 by decide]
  refine wb g.1 ?_
  by_cases c1 : n < 1
  · refine wt ((zI_lt (by omega)).mpr c1) ?_
    rw [if_pos (by omega)]
    exact wr ⟨rfl, e, OFF_refl _ _ _⟩
  · refine wf (fun d => c1 ((zI_lt (by omega)).mp d)) ?_
    by_cases c2 : n ≤ 3
    · refine wt ((zI_le (by omega)).mpr c2) ?_
      by_cases c3 : w.toInt < 0
      · refine wt ((lg_neg w).mpr c3) ?_
        rw [if_pos (by omega)]
        exact wr ⟨rfl, e, OFF_refl _ _ _⟩
      · refine wf (fun d => c3 ((lg_neg w).mp d)) ?_
        obtain ⟨hw, hz⟩ := zJ_of (x := w) (by omega)
        generalize w.toInt.toNat = z at *
        obtain ⟨k, rfl⟩ : ∃ k : Nat, n = (k : Int) := ⟨n.toNat, by omega⟩
        subst hw
        refine wb (X7_withoutLast_is h (by omega) hz) ?_
        have h1 : z / 100000 ^ k ≤ z := Nat.div_le_self _ _
        rw [show (0 : Int64) = zJ 0 from rfl, Int.toNat_natCast]
        by_cases c4 : z < 100000 ^ k
        · rw [if_neg (show ¬ ¬ ((1 ≤ (k : Int) ∧ (k : Int) ≤ 3) ∧ 0 ≤ (zJ z).toInt ∧ z < 100000 ^ k) from fun d => d ⟨by omega, by omega, c4⟩)]
          refine wt ((lg_le (by omega) (by omega)).mpr (by rw [Nat.div_eq_of_lt c4]; omega)) ?_
          refine wb g.2.2.2.1 ?_
          refine wb g.2.2.1 ?_
          obtain ⟨T, hT⟩ := e.2.2.2.2.1
          refine wpb (X3_become_is hT (CLS_S e) (by omega) (by omega)) ?_
          rintro h1 ⟨q1, q2⟩
          have e1 := CLS_tr e (FR_c q2 (by omega)) (CLN_off e.2.1 q2 (by omega)) q1
          have := C_scrL (Mz := M + k) (by omega) (k := k) hz (by omega) (h0 := h) k FU h1 0 A.1 (by unfold FU; omega) (by omega) e1 q1 (by rw [show M + k - (k : Int) = M by omega]; exact H) (OFF_wide q2 (by omega))
          exact this
        · rw [if_pos (fun d => c4 d.2.2)]
          have h2 : 0 < z / 100000 ^ k := Nat.div_pos (by omega) (Nat.pow_pos (by omega))
          refine wf (fun d => absurd ((lg_le (by omega) (by omega)).mp d) (by omega)) ?_
          exact wr ⟨rfl, e, OFF_refl _ _ _⟩
    · refine wf (fun d => c2 ((zI_le (by omega)).mp d)) ?_
      rw [if_pos (by omega)]
      exact wr ⟨rfl, e, OFF_refl _ _ _⟩
/-- the state is put back at the end -/
theorem ran_end {h h0 : HP} {m : Nat} {w v0 : Nat → Int32} {A : AB} {S : SG} (e : RFV h m w (S, A.2)) (hv : ∀ i : Nat, i < 10 → w i = v0 i) {g : Nat → Int32} (k : ARR h (m + 2) 204 g) (q : RW g A.1) (o : OFF m 9 h0 h) (res : Int32) : WP (b_X8_ran_99 m h res) (fun r' => r'.1 = res ∧ (∃ w, RFV r'.2 m w A ∧ ∀ i : Nat, i < 10 → w i = v0 i) ∧ OFF m 9 h0 r'.2) := by
  unfold b_X8_ran_99
  obtain ⟨f, -, k1, -⟩ := REF_MOB e.2.1 e.1
  refine wpb (X8_putBack_is e.1 k1 k q) ?_
  rintro h1 ⟨q1, q2⟩
  have e1 : RFV h1 m w A := RFV_w (A := (S, A.2)) e q2 q1
  exact wr ⟨rfl, ⟨w, e1, hv⟩, OFF_trans o (OFF_wide q2 (by omega))⟩
theorem R_scrL {m : Nat} {A : AB} {v0 : Nat → Int32} {Mz : Int} (hMz : Mz < 1000000) {z k : Nat} (hz : z < 9223372036854775808) (hk : k ≤ 3) {h0 : HP} {g : Nat → Int32} (q : RW g A.1) : ∀ (r n : Nat) (h : HP) (u : Int64) (t : Nat) (S : SG) (w : Nat → Int32), r + 1 < n → t + r = k → (r ≠ 0 → u = zJ (100000 ^ (r - 1))) → RFV h m w (S, A.2) → (∀ i : Nat, i < 10 → w i = v0 i) → ARR h (m + 2) 204 g → GOK S (Mz - r) → OFF m 9 h0 h → WP (b_X8_ran_38 m (zI k) n h (zJ z) u (zI (-1)) (zI t)) (fun r' => r'.1 = zI (scr z k r t S) ∧ (∃ w, RFV r'.2 m w A ∧ ∀ i : Nat, i < 10 → w i = v0 i) ∧ OFF m 9 h0 r'.2) := by
  intro r
  induction r with
  | zero =>
    intro n h u t S w hn ht hu e hv ka H o
    obtain ⟨n, rfl⟩ : ∃ k, n = k + 1 := ⟨n - 1, by omega⟩
    unfold b_X8_ran_38 c_X8_ran_38
    refine wt ((zI_le (by omega)).mpr (by omega)) ?_
    exact ran_end e hv ka q o _
  | succ r ih =>
    intro n h u t S w hn ht hu e hv ka H o
    obtain ⟨n, rfl⟩ : ∃ k, n = k + 1 := ⟨n - 1, by omega⟩
    have hu1 := hu (by omega)
    rw [show r + 1 - 1 = r by omega] at hu1
    have hp : 100000 ^ r ≤ 100000 ^ 2 := Nat.pow_le_pow_right (by omega) (by omega)
    have hp1 : 0 < 100000 ^ r := Nat.pow_pos (by omega)
    have hp2 : 100000 ^ r < 9223372036854775808 := Nat.lt_of_le_of_lt hp (by decide)
    have h1 : z / 100000 ^ r ≤ z := Nat.div_le_self _ _
    have h2 := Nat.mod_lt (z / 100000 ^ r) (show 0 < 100000 by omega)
    have hkt : k - 1 - t = r := by omega
    unfold b_X8_ran_38 c_X8_ran_38
    rw [show (-1 : Int32) = zI (-1) by decide]
    refine wf (fun d => absurd ((zI_le (by omega)).mp d) (by omega)) ?_
    refine wt rfl ?_
    subst hu1
    refine wf (fun d => ?_) ?_
    · have := congrArg Int64.toInt d
      rw [zJ_int hp2, show (0 : Int64).toInt = 0 from rfl] at this
      omega
    rw [zJ_div hz ⟨hp1, hp2⟩, show (100000 : Int64) = zJ 100000 from rfl, zJ_rem (by omega) (by omega), zJ_32 (by omega), show (10000 : Int32) = zI (10000 : Nat) by decide, zI_div (by omega) (by omega)]
    refine wpb (R_group e H h2) ?_
    rintro ⟨y, h3⟩ ⟨q1, ⟨w3, q2, q3⟩, q4⟩
    dsimp only at q1 q2 q3 q4 ⊢
    subst q1
    have hs : scr z k (r + 1) t S = match doG S (z / 100000 ^ r % 100000) with
      | none => (t : Int)
      | some T => scr z k r (t + 1) T := by rw [← hkt]; rfl
    have hok := doG_ok H (by omega) (z / 100000 ^ r % 100000)
    have hv3 : ∀ i : Nat, i < 10 → w3 i = v0 i := fun i hi => (q3 i hi).trans (hv i hi)
    have ka3 : ARR h3 (m + 2) 204 g := (q4 _ (by omega) (by omega) (by omega) (by omega)).trans ka
    have o3 := OFF_trans o (OF4_f q4)
    unfold b_X8_ran_83
    rw [hs, zl1, zI_add]
    cases hd : doG S (z / 100000 ^ r % 100000) with
    | none =>
      rw [tB_0 (by simp)]
      refine wt rfl ?_
      obtain ⟨n, rfl⟩ : ∃ k, n = k + 1 := ⟨n - 1, by omega⟩
      unfold b_X8_ran_38 c_X8_ran_38
      rw [hd] at q2
      by_cases c : k ≤ t + 1
      · refine wt ((zI_le (by omega)).mpr (by omega)) ?_
        exact ran_end q2 hv3 ka3 q o3 _
      · refine wf (fun d => absurd ((zI_le (by omega)).mp d) (by omega)) ?_
        rw [show (-1 : Int32) = zI (-1) by decide]
        refine wf (fun d => absurd ((zI_inj (by omega)).mp d) (by omega)) ?_
        exact ran_end q2 hv3 ka3 q o3 _
    | some T =>
      rw [tB_1 (by rfl)]
      refine wf (by decide) ?_
      rw [hd] at q2 hok
      have := ih n h3 (zJ (100000 ^ r) / zJ 100000) (t + 1) T w3 (by omega) (by omega) (fun hr => ?_) q2 hv3 ka3 (GOK_up hok (by omega)) o3
      · rw [cast1] at this
        exact this
      · rw [zJ_div hp2 (by omega)]
        obtain ⟨r, rfl⟩ : ∃ i, r = i + 1 := ⟨r - 1, by omega⟩
        rw [Nat.pow_succ, Nat.mul_div_cancel _ (by omega)]
        rfl
theorem R_script {h : HP} {m : Nat} {v : Nat → Int32} {A : AB} (e : RFV h m v A) {M : Int} (H : GOK A.1 M) (hM : M + 3 < 1000000) {n : Int} (hn : -2147483648 ≤ n ∧ n < 2147483648) (w : Int64) : WP (f_X8_runScript h m (zI n) w) (RFR m (xScript A n w).2.2 (xScript A n w).1 (xScript A n w).2.1 h) := by
  unfold f_X8_runScript b_X8_runScript_0
  refine wb (kO_e e.1) ?_
  have main : ∀ (k : Nat) (mx : Nat), (n = k → 1 ≤ k ∧ k ≤ 3 → mx + 1 = 100000 ^ k) → (¬ (1 ≤ n ∧ n ≤ 3) ∨ n = k) → mx < 9223372036854775808 → WP (b_X8_runScript_25 m (zI n) w h (zJ mx)) (RFR m (xScript A n w).2.2 (xScript A n w).1 (xScript A n w).2.1 h) := by
    intro k mx hmx hk hm
    unfold b_X8_runScript_25 b_X8_runScript_55
    rw [show f_X8_in h (zI n) 1 3 = f_X8_in h (zI n) (zI 1) (zI 3) from rfl]
    refine wb (X8_in_is h hn (by omega) (by omega)) ?_
    by_cases c1 : 1 ≤ n ∧ n ≤ 3
    · rw [tB_1 c1]
      refine wf (by decide) ?_
      have hk' : n = k := by omega
      subst hk'
      have hmk := hmx rfl (by omega)
      by_cases c2 : w.toInt < 0
      · refine wt ((lg_neg w).mpr c2) ?_
        rw [xScript_0 (by omega)]
        exact act_no e (OFF_refl _ _ _) (c := 1) (by omega) rfl
      · refine wf (fun d => c2 ((lg_neg w).mp d)) ?_
        obtain ⟨hw, hz⟩ := zJ_of (x := w) (by omega)
        by_cases c4 : w.toInt.toNat < 100000 ^ k
        · rw [xScript_1 ⟨c1, by omega, c4⟩, Int.toNat_natCast]
          generalize w.toInt.toNat = z at *
          subst hw
          refine wt ((lg_le hz hm).mpr (by omega)) ?_
          rw [zl0]
          refine wpb (X8_holds_is e (c := 0) (by omega)) ?_
          rintro ⟨y, h1⟩ ⟨q1, q2, q3⟩
          dsimp only at q1 q2 q3 ⊢
          subst q1
          rw [tB_1 rfl]
          refine wf (by decide) ?_
          obtain ⟨ga, hga⟩ := q2.2.2.2.1
          have run : ∀ u : Int64, u = zJ (100000 ^ (k - 1)) → WP (b_X8_ran_26 m (zI k) h1 (zJ z) u) (fun r' => r'.1 = zI (scr z k k 0 A.1) ∧ (∃ w, RFV r'.2 m w A ∧ ∀ i : Nat, i < 10 → w i = upd v 0 (zI 0) i) ∧ OFF m 9 h1 r'.2) := by
            intro u hu
            unfold b_X8_ran_26
            refine wpb (X8_putAside_is q2.2.1 hga) ?_
            rintro h2 ⟨⟨g', r1, r2⟩, r3⟩
            have e2 : RFV h2 m (upd v 0 (zI 0)) A := by
              obtain ⟨e0, ⟨v', f, s0, s1, s2⟩, ⟨⟨gb, e20⟩, d', D, e21, e22⟩, -, ⟨w, f', t0, t1, t2⟩, ⟨sl, z, e5, e6, e7⟩, e8⟩ := q2
              exact ⟨(r3 _ (by omega)).trans e0, ⟨v', f, (r3 _ (by omega)).trans s0, (r3 _ (by omega)).trans s1, s2⟩, ⟨⟨gb, (r3 _ (by omega)).trans e20⟩, d', D, (r3 _ (by omega)).trans e21, e22⟩, ⟨g', r1⟩, ⟨w, f', (r3 _ (by omega)).trans t0, (r3 _ (by omega)).trans t1, t2⟩, ⟨sl, z, (r3 _ (by omega)).trans e5, (r3 _ (by omega)).trans e6, e7⟩, RTX_mv e8 (r3 _ (by omega)) rfl⟩
            exact R_scrL (Mz := M + k) (by omega) (k := k) hz (by omega) (h0 := h1) r2 k FU h2 u 0 A.1 _ (by unfold FU; omega) (by omega) (fun _ => hu) e2 (fun _ _ => rfl) r1 (by rw [show M + k - (k : Int) = M by omega]; exact H) (OFF_wide r3 (by omega))
          have fin : WP (f_X8_ran h1 m (zI k) (zJ z)) (fun r' => r'.1 = zI (scr z k k 0 A.1) ∧ (∃ w, RFV r'.2 m w A ∧ ∀ i : Nat, i < 10 → w i = upd v 0 (zI 0) i) ∧ OFF m 9 h1 r'.2) := by
            unfold f_X8_ran b_X8_ran_0
            refine wb (kO_e q2.1) ?_
            rw [show (3 : Int32) = zI 3 by decide, show (2 : Int32) = zI 2 by decide]
            by_cases d3 : k = 3
            · subst d3
              refine wt rfl ?_
              exact run _ rfl
            · refine wf (fun d => d3 (by have := (zI_inj (by omega)).mp d; omega)) ?_
              by_cases d2 : k = 2
              · subst d2
                refine wt rfl ?_
                exact run _ rfl
              · refine wf (fun d => d2 (by have := (zI_inj (by omega)).mp d; omega)) ?_
                have : k = 1 := by omega
                subst this
                exact run _ rfl
          refine wpb fin ?_
          rintro ⟨y, h2⟩ ⟨r1, ⟨w2, r2, r3⟩, r4⟩
          exact wr ⟨⟨w2, r2, (r3 0 (by omega)).trans (upd_eq rfl)⟩, fun _ => r1, OFF_trans (OFF_wide q3 (by omega)) r4⟩
        · rw [xScript_0 (fun d => c4 d.2.2)]
          generalize w.toInt.toNat = z at *
          subst hw
          refine wf (fun d => absurd ((lg_le hz hm).mp d) (by omega)) ?_
          exact act_no e (OFF_refl _ _ _) (c := 1) (by omega) rfl
    · rw [tB_0 c1, xScript_0 (fun d => c1 d.1)]
      refine wt rfl ?_
      exact act_no e (OFF_refl _ _ _) (c := 1) (by omega) rfl
  rw [show (3 : Int32) = zI 3 by decide, show (2 : Int32) = zI 2 by decide]
  by_cases d3 : n = 3
  · refine wt ((zI_inj (by omega)).mpr d3) ?_
    exact main 3 999999999999999 (fun _ _ => rfl) (Or.inr d3) (by omega)
  · refine wf (fun d => d3 ((zI_inj (by omega)).mp d)) ?_
    by_cases d2 : n = 2
    · refine wt ((zI_inj (by omega)).mpr d2) ?_
      exact main 2 9999999999 (fun _ _ => rfl) (Or.inr d2) (by omega)
    · refine wf (fun d => d2 ((zI_inj (by omega)).mp d)) ?_
      exact main 1 99999 (fun _ _ => rfl) (by omega) (by omega)
