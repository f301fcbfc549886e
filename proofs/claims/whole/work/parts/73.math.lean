/-! going through the text -/
theorem bad_nxt {l : List Int} {A : Nat} (hA : A < l.length) (h : bad l A = -1) : nxt l A ≤ l.length ∧ nd (sgn l A) ≠ -1 := by
  unfold bad at h
  by_cases c : nd (sgn l A) = -1
  · rw [if_pos c] at h
    omega
  · rw [if_neg c] at h
    exact ⟨fst1_okle hA h, c⟩
theorem bad_rng {l : List Int} {A : Nat} (hA : A < l.length) : -1 ≤ bad l A ∧ bad l A ≤ 1000 + l.length := by
  have hn := nd_rng (sgn l A)
  unfold bad
  split
  · omega
  · have := fst1_rng (fun x => okB l A x = false) (A + 1) (nd (sgn l A)).toNat
    omega
theorem goF_loop {m : Nat} {l : List Int} {v0 : Nat → Int32} {h0 : HP} : ∀ (d n : Nat) (h : HP) (v : Nat → Int32) (A : Nat) (out : Int), A ≤ l.length → l.length < A + d → d + 1 < n → MOB h m v → RTX h m v l → v 12 = zI A → v 13 = 0 → (∀ i : Nat, i < 12 → v i = v0 i) → OFF m 1 h0 h → WP (b_X8_go_21 m 0 n h (zI out)) (fun r => ∃ v', MOB r.2 m v' ∧ (∀ i : Nat, i < 12 → v' i = v0 i) ∧ OFF m 1 h0 r.2 ∧ (errF l d A = -1 → v' 13 = 0) ∧ (errF l d A ≠ -1 → v' 13 = 1 ∧ v' 12 = zI (errF l d A))) := by
  intro d
  induction d with
  | zero =>
    intro n h v A out hA hd
    omega
  | succ d ih =>
    intro n h v A out hA hd hn e t h12 h13 hv o
    obtain ⟨n, rfl⟩ : ∃ k, n = k + 1 := ⟨n - 1, by omega⟩
    have hb := RTX_b t
    have h8 : v 8 = zI l.length := t.1
    rw [errF_succ]
    unfold b_X8_go_21 c_X8_go_21
    refine wb (gI_e e rfl) ?_
    rw [h13]
    refine wt rfl ?_
    refine wb (gI_e e rfl) ?_
    refine wb (gI_e e rfl) ?_
    rw [h12, h8]
    by_cases c1 : l.length ≤ A
    · refine wt ((zI_le (by omega)).mpr (by omega)) ?_
      rw [if_pos c1]
      exact wr ⟨v, e, hv, o, fun _ => h13, fun d => absurd rfl d⟩
    · refine wf (fun d => absurd ((zI_le (by omega)).mp d) (by omega)) ?_
      rw [if_neg c1]
      refine wpb (X8_command_is (by omega) e t h12 h13) ?_
      rintro h1 ⟨v1, q1, q2, q3, q4, q5, q6⟩
      refine wt rfl ?_
      rw [show zI out + 0 = zI (out + 0) by rw [zl0, zI_add]]
      by_cases c2 : bad l A = -1
      · obtain ⟨r1, r2, -⟩ := q5 c2
        rw [if_pos c2]
        obtain ⟨b1, b2⟩ := bad_nxt (by omega) c2
        exact ih n h1 v1 (nxt l A) (out + 0) b1 (by unfold nxt; omega) (by omega) q1 q2 r1 r2 (fun i hi => (q3 i hi).trans (hv i hi)) (OFF_trans o q4)
      · obtain ⟨r1, r2⟩ := q6 c2
        rw [if_neg c2]
        obtain ⟨n, rfl⟩ : ∃ k, n = k + 1 := ⟨n - 1, by omega⟩
        unfold b_X8_go_21 c_X8_go_21
        refine wb (gI_e q1 rfl) ?_
        rw [r2]
        refine wf (by decide) ?_
        exact wr ⟨v1, q1, fun i hi => (q3 i hi).trans (hv i hi), OFF_trans o q4, fun d => absurd d c2, fun _ => ⟨r2, r1⟩⟩
/-- both ways begin so -/
theorem go_start {h : HP} {m : Nat} {v : Nat → Int32} {l : List Int} (e : MOB h m v) (t : RTX h m v l) {dn : Int32} {P : Int32 × HP → Prop} (hbad : sgn l 0 ≠ 71 → ∀ h' v', MOB h' m v' → (∀ i : Nat, i < 12 → v' i = v i) → OFF m 1 h h' → v' 13 = 1 → v' 12 = zI 0 → P (0, h')) (hok : sgn l 0 = 71 → 1 ≤ l.length → ∀ h' v', MOB h' m v' → (∀ i : Nat, i < 12 → v' i = v i) → OFF m 1 h h' → v' 13 = 0 → v' 12 = zI 1 → WP (b_X8_go_21 m dn FU h' 0) P) : WP (f_X8_go h m dn) P := by
  have hb := RTX_b t
  unfold f_X8_go b_X8_go_0
  simp only [show (71 : Int32) = zI 71 by decide]
  refine wb (kO_e e) ?_
  refine wpb (pI_M e (by omega)) ?_
  rintro h1 ⟨q1, q2⟩
  refine wpb (pI_M q1 (by omega)) ?_
  rintro h2 ⟨q3, q4⟩
  have o2 := OFF_trans q2 q4
  refine wpb (X8_sign_is q3 (RTX_mv t (o2 _ (by omega)) ((upd_ne (by omega)).trans (upd_ne (by omega)))) (a := 0) (w := false) ((upd_ne (by omega)).trans (upd_eq rfl)) (by omega) ((upd_eq rfl).trans (tB_0 (by decide)).symm) (by omega)) ?_
  rintro ⟨y, h3⟩ ⟨r1, r2, r3⟩
  dsimp only at r1 r2 r3 ⊢
  have hv : ∀ (w' : Bool) (z : Int32) (i : Nat), i < 12 → upd (upd (upd (upd v 12 0) 13 0) 13 (tB (w' = true))) 12 z i = v i := fun w' z i hi => by
    rw [upd_ne (by omega), upd_ne (by omega), upd_ne (by omega), upd_ne (by omega)]
  by_cases c : sgn l 0 = 71
  · rw [show (false || !decide (71 ≤ sgn l ((0 : Nat) : Int) ∧ sgn l ((0 : Nat) : Int) ≤ 71)) = false by
      rw [decide_eq_true (show 71 ≤ sgn l ((0 : Nat) : Int) ∧ sgn l ((0 : Nat) : Int) ≤ 71 by rw [show ((0 : Nat) : Int) = 0 from rfl]; omega)]
      rfl] at r2
    refine hok c ?_ h3 _ r2 (fun i hi => ?_) (OFF_trans o2 r3) ?_ ?_
    · by_cases c2 : l.length = 0
      · rw [sgn_out (by omega)] at c
        omega
      · omega
    · rw [upd_ne (by omega), upd_ne (by omega), upd_ne (by omega), upd_ne (by omega)]
    · rw [upd_ne (by omega), upd_eq rfl]
      exact tB_0 (by decide)
    · rw [upd_eq rfl, if_neg (by decide)]
      rfl
  · rw [show (false || !decide (71 ≤ sgn l ((0 : Nat) : Int) ∧ sgn l ((0 : Nat) : Int) ≤ 71)) = true by
      rw [decide_eq_false (show ¬ (71 ≤ sgn l ((0 : Nat) : Int) ∧ sgn l ((0 : Nat) : Int) ≤ 71) by rw [show ((0 : Nat) : Int) = 0 from rfl]; omega)]
      rfl] at r2
    have h13 : upd (upd (upd (upd v 12 0) 13 0) 13 (tB (true = true))) 12 (zI (((0 : Nat) : Int) + if true = true then (0 : Int) else 1)) 13 = 1 := by
      rw [upd_ne (by omega), upd_eq rfl]
      exact tB_1 rfl
    have hF : FU = 4095 + 1 := rfl
    rw [hF]
    unfold b_X8_go_21 c_X8_go_21
    refine wb (gI_e r2 rfl) ?_
    rw [h13]
    refine wf (by decide) ?_
    refine wr (hbad c h3 _ r2 (fun i hi => ?_) (OFF_trans o2 r3) h13 ?_)
    · rw [upd_ne (by omega), upd_ne (by omega), upd_ne (by omega), upd_ne (by omega)]
    · rw [upd_eq rfl, if_pos rfl]
      rfl
theorem X8_goF_is {h : HP} {m : Nat} {v : Nat → Int32} {l : List Int} (e : MOB h m v) (t : RTX h m v l) : WP (f_X8_go h m 0) (fun r => ∃ v', MOB r.2 m v' ∧ (∀ i : Nat, i < 12 → v' i = v i) ∧ OFF m 1 h r.2 ∧ (errP l = -1 → v' 13 = 0) ∧ (errP l ≠ -1 → v' 13 = 1 ∧ v' 12 = zI (errP l))) := by
  have hb := RTX_b t
  unfold errP
  refine go_start e t (fun c h' v' k1 k2 k3 k4 k5 => ?_) (fun c hl h' v' k1 k2 k3 k4 k5 => ?_)
  · rw [if_neg c]
    exact ⟨v', k1, k2, k3, fun d => by omega, fun _ => ⟨k4, k5⟩⟩
  · rw [if_pos c, zl0]
    exact goF_loop (v0 := v) (h0 := h) 200 FU h' v' 1 0 hl (by omega) (by unfold FU; omega) k1 (RTX_mv t (k3 _ (by omega)) (k2 8 (by omega))) k5 k4 k2 k3
/-- the commands of the text, done one after the other: the state then, and how many are left out -/
def runF (l : List Int) : Nat → Nat → SG → Int → SG × Int
  | 0, _, S, o => (S, o)
  | n + 1, A, S, o => if l.length ≤ A then (S, o) else runF l n (nxt l A) ((cmdS (sgn l A) (oneC l A) (twoC l A) S).getD S) (if (cmdS (sgn l A) (oneC l A) (twoC l A) S).isSome = true then o else o + 1)
theorem runF_succ (l : List Int) (n A : Nat) (S : SG) (o : Int) : runF l (n + 1) A S o = if l.length ≤ A then (S, o) else runF l n (nxt l A) ((cmdS (sgn l A) (oneC l A) (twoC l A) S).getD S) (if (cmdS (sgn l A) (oneC l A) (twoC l A) S).isSome = true then o else o + 1) := rfl
theorem D_rng {l : List Int} (hb : ∀ j, -1 ≤ sgn l j ∧ sgn l j ≤ 255) (A : Nat) : (-100000 < oneC l A ∧ oneC l A < 100000) ∧ -100000 < twoC l A ∧ twoC l A < 100000 := by
  have h1 : ∀ p, -100000 < D1 l p ∧ D1 l p < 100000 := fun p => by
    have := hb p
    unfold D1
    omega
  have h2 : ∀ p, -100000 < D2 l p ∧ D2 l p < 100000 := fun p => by
    have := hb p
    have := hb (p + 1)
    unfold D2
    omega
  have h3 : ∀ p, -100000 < D3 l p ∧ D3 l p < 100000 := fun p => by
    have := hb p
    have := hb (p + 1)
    have := hb (p + 2)
    unfold D3
    omega
  unfold oneC twoC
  constructor
  · split
    · exact h2 _
    · split
      · exact h1 _
      · omega
  · split
    · exact h3 _
    · split
      · exact h2 _
      · omega
theorem getD_ok {S : SG} {M : Int} (H : GOK S M) (hM : M + 1 < 1000000) (c one two : Int) : GOK ((cmdS c one two S).getD S) (M + 1) := by
  cases hc : cmdS c one two S with
  | none => exact GOK_up H (by omega)
  | some T => exact cmd_ok H hM hc
theorem goT_loop {m : Nat} {l : List Int} {v0 : Nat → Int32} {h0 : HP} {Mz : Int} (hMz : Mz < 1000000) : ∀ (d n : Nat) (h : HP) (v : Nat → Int32) (A : Nat) (out : Int) (S : SG), A ≤ l.length → l.length < A + d → d + 1 < n → errF l d A = -1 → MOB h m v → RTX h m v l → v 12 = zI A → v 13 = 0 → REF h m S → ALO h m → GOK S (Mz - d) → (∀ i : Nat, i < 10 → v i = v0 i) → OF4 m h0 h → WP (b_X8_go_21 m 1 n h (zI out)) (fun r => r.1 = zI (runF l d A S out).2 ∧ (∃ v', MOB r.2 m v' ∧ ∀ i : Nat, i < 10 → v' i = v0 i) ∧ REF r.2 m (runF l d A S out).1 ∧ ALO r.2 m ∧ OF4 m h0 r.2) := by
  intro d
  induction d with
  | zero =>
    intro n h v A out S hA hd
    omega
  | succ d ih =>
    intro n h v A out S hA hd hn he e t h12 h13 r al H hv o
    obtain ⟨n, rfl⟩ : ∃ k, n = k + 1 := ⟨n - 1, by omega⟩
    have hb := RTX_b t
    have h8 : v 8 = zI l.length := t.1
    rw [errF_succ] at he
    rw [runF_succ]
    unfold b_X8_go_21 c_X8_go_21
    refine wb (gI_e e rfl) ?_
    rw [h13]
    refine wt rfl ?_
    refine wb (gI_e e rfl) ?_
    refine wb (gI_e e rfl) ?_
    rw [h12, h8]
    by_cases c1 : l.length ≤ A
    · refine wt ((zI_le (by omega)).mpr (by omega)) ?_
      rw [if_pos c1]
      exact wr ⟨rfl, ⟨v, e, hv⟩, r, al, o⟩
    · refine wf (fun d => absurd ((zI_le (by omega)).mp d) (by omega)) ?_
      rw [if_neg c1] at he ⊢
      have hbad : bad l A = -1 := by
        by_cases c2 : bad l A = -1
        · exact c2
        · rw [if_neg c2] at he
          exact absurd he c2
      rw [if_pos hbad] at he
      refine wpb (X8_command_is (by omega) e t h12 h13) ?_
      rintro h1 ⟨v1, q1, q2, q3, q4, q5, -⟩
      obtain ⟨p1, p2, p3, p4, p5⟩ := q5 hbad
      obtain ⟨b1, b2⟩ := bad_nxt (by omega) hbad
      refine wf (by decide) ?_
      have hr1 := REF_mv r (q4 _ (by omega)) q1
      have hs := hb.2 A
      have hD := D_rng hb.2 A
      refine wpb (X8_does_is q1 hr1 (ALO_off al q4 (by omega)) H p3 p4 p5 (by omega)) ?_
      rintro ⟨y, h2⟩ ⟨g1, ⟨z, g2⟩, g3, g4, g5⟩
      dsimp only at g1 g2 g3 g4 g5 ⊢
      subst g1
      have hv2 : ∀ i : Nat, i < 10 → upd v1 10 z i = v0 i := fun i hi => (upd_ne (by omega)).trans ((q3 i (by omega)).trans (hv i hi))
      have t2 : RTX h2 m (upd v1 10 z) l := RTX_mv q2 (g5 _ (by omega) (by omega) (by omega) (by omega)) (upd_ne (by omega))
      have o2 : OF4 m h0 h2 := OF4_trans o (OF4_trans (OF4_0 q4) g5)
      have H2 : GOK ((cmdS (sgn l A) (oneC l A) (twoC l A) S).getD S) (Mz - d) := by
        have := getD_ok H (by omega) (sgn l A) (oneC l A) (twoC l A)
        exact GOK_up this (by omega)
      have h9 := fun out' => ih n h2 (upd v1 10 z) (nxt l A) out' _ b1 (by unfold nxt; omega) (by omega) he g2 t2 ((upd_ne (by omega)).trans p1) ((upd_ne (by omega)).trans p2) g3 g4 H2 hv2 o2
      by_cases c3 : (cmdS (sgn l A) (oneC l A) (twoC l A) S).isSome = true
      · rw [tB_1 c3]
        rw [if_pos c3]
        refine wf (by decide) ?_
        rw [show zI out + 0 = zI out by rw [zl0, zI_add, Int.add_zero]]
        exact h9 out
      · rw [tB_0 c3]
        rw [if_neg c3]
        refine wt rfl ?_
        rw [zl1, zI_add]
        exact h9 (out + 1)
theorem X8_goT_is {h : HP} {m : Nat} {v : Nat → Int32} {l : List Int} {S : SG} (e : MOB h m v) (t : RTX h m v l) (he : errP l = -1) (r : REF h m S) (al : ALO h m) {M : Int} (H : GOK S M) (hM : M + 200 < 1000000) : WP (f_X8_go h m 1) (fun r => r.1 = zI (runF l 200 1 S 0).2 ∧ (∃ v', MOB r.2 m v' ∧ ∀ i : Nat, i < 10 → v' i = v i) ∧ REF r.2 m (runF l 200 1 S 0).1 ∧ ALO r.2 m ∧ OF4 m h r.2) := by
  have hb := RTX_b t
  unfold errP at he
  refine go_start e t (fun c h' v' k1 k2 k3 k4 k5 => ?_) (fun c hl h' v' k1 k2 k3 k4 k5 => ?_)
  · rw [if_neg c] at he
    omega
  · rw [if_pos c] at he
    rw [zl0]
    exact goT_loop (v0 := v) (h0 := h) (Mz := M + 200) hM 200 FU h' v' 1 0 S hl (by omega) (by unfold FU; omega) he k1 (RTX_mv t (k3 _ (by omega)) (k2 8 (by omega))) k5 k4 (REF_mv r (k3 _ (by omega)) k1) (ALO_off al k3 (by omega)) (by rw [show M + 200 - ((200 : Nat) : Int) = M by omega]; exact H) (fun i hi => k2 i (by omega)) (OF4_0 k3)
theorem runF_ok {l : List Int} {Mz : Int} (hMz : Mz < 1000000) : ∀ (d A : Nat) (S : SG) (o : Int), GOK S (Mz - d) → GOK (runF l d A S o).1 Mz := by
  intro d
  induction d with
  | zero =>
    intro A S o H
    rw [show Mz - ((0 : Nat) : Int) = Mz by omega] at H
    exact H
  | succ d ih =>
    intro A S o H
    rw [runF_succ]
    split
    · exact GOK_up H (by omega)
    · have := getD_ok H (by omega) (sgn l A) (oneC l A) (twoC l A)
      exact ih _ _ _ (GOK_up this (by omega))
