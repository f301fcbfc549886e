/-! the reference reads signs -/
def RTX (h : HP) (m : Nat) (v : Nat → Int32) (l : List Int) : Prop := v 8 = zI l.length ∧ ∃ f, ARR h (m + 6) 120 f ∧ CLU f l ∧ l.length ≤ 120 ∧ ∀ c ∈ l, 0 ≤ c ∧ c ≤ 255
theorem RTX_mv {h h' : HP} {m : Nat} {v v' : Nat → Int32} {l : List Int} (e : RTX h m v l) (k : h' (m + 6) = h (m + 6)) (hv : v' 8 = v 8) : RTX h' m v' l := by
  obtain ⟨e0, f, e1, r⟩ := e
  exact ⟨hv.trans e0, f, k.trans e1, r⟩
theorem RTX_b {h : HP} {m : Nat} {v : Nat → Int32} {l : List Int} (e : RTX h m v l) : l.length ≤ 120 ∧ ∀ j, -1 ≤ sgn l j ∧ sgn l j ≤ 255 := by
  obtain ⟨e0, f, e1, e2, e3, e4⟩ := e
  refine ⟨e3, fun j => ?_⟩
  unfold sgn
  split
  · rename_i c
    have := e4 _ (iat_mem c)
    omega
  · omega
theorem pI_M {h : HP} {m k : Nat} {v : Nat → Int32} {x : Int32} (e : MOB h m v) (hk : k = 0 ∨ k = 4 ∨ k = 8 ∨ k = 10 ∨ k = 12 ∨ k = 13 ∨ k = 14 ∨ k = 15 ∨ k = 16) : WP (pI 8 k h m x) (fun h' => MOB h' m (upd v k x) ∧ OFF m 1 h h') := by
  rcases hk with rfl | rfl | rfl | rfl | rfl | rfl | rfl | rfl | rfl
  · exact weq (pI_e2 (fs2 := mrow m (upd v 0 x)) e (show 0 < 17 by omega) rfl) ⟨hup_same _ _ _, OFF_up (OFF_refl _ _ _) (by omega)⟩
  · exact weq (pI_e2 (fs2 := mrow m (upd v 4 x)) e (show 4 < 17 by omega) rfl) ⟨hup_same _ _ _, OFF_up (OFF_refl _ _ _) (by omega)⟩
  · exact weq (pI_e2 (fs2 := mrow m (upd v 8 x)) e (show 8 < 17 by omega) rfl) ⟨hup_same _ _ _, OFF_up (OFF_refl _ _ _) (by omega)⟩
  · exact weq (pI_e2 (fs2 := mrow m (upd v 10 x)) e (show 10 < 17 by omega) rfl) ⟨hup_same _ _ _, OFF_up (OFF_refl _ _ _) (by omega)⟩
  · exact weq (pI_e2 (fs2 := mrow m (upd v 12 x)) e (show 12 < 17 by omega) rfl) ⟨hup_same _ _ _, OFF_up (OFF_refl _ _ _) (by omega)⟩
  · exact weq (pI_e2 (fs2 := mrow m (upd v 13 x)) e (show 13 < 17 by omega) rfl) ⟨hup_same _ _ _, OFF_up (OFF_refl _ _ _) (by omega)⟩
  · exact weq (pI_e2 (fs2 := mrow m (upd v 14 x)) e (show 14 < 17 by omega) rfl) ⟨hup_same _ _ _, OFF_up (OFF_refl _ _ _) (by omega)⟩
  · exact weq (pI_e2 (fs2 := mrow m (upd v 15 x)) e (show 15 < 17 by omega) rfl) ⟨hup_same _ _ _, OFF_up (OFF_refl _ _ _) (by omega)⟩
  · exact weq (pI_e2 (fs2 := mrow m (upd v 16 x)) e (show 16 < 17 by omega) rfl) ⟨hup_same _ _ _, OFF_up (OFF_refl _ _ _) (by omega)⟩
theorem X8_sign_is {h : HP} {m : Nat} {v : Nat → Int32} {l : List Int} (e : MOB h m v) (t : RTX h m v l) {a : Nat} {w : Bool} (ha : v 12 = zI a) (ha2 : a ≤ l.length) (hw : v 13 = tB (w = true)) {lo hi : Int} (hl : 0 ≤ lo ∧ lo ≤ hi ∧ hi < 1000) : WP (f_X8_sign h m (zI lo) (zI hi)) (fun r => r.1 = zI (sgn l a) ∧ MOB r.2 m (upd (upd v 13 (tB ((w || !decide (lo ≤ sgn l a ∧ sgn l a ≤ hi)) = true))) 12 (zI (a + if (w || !decide (lo ≤ sgn l a ∧ sgn l a ≤ hi)) = true then (0 : Int) else 1))) ∧ OFF m 1 h r.2) := by
  have hb := RTX_b t
  have hs := hb.2 a
  obtain ⟨t0, f, t1, t2, t3, t4⟩ := t
  have f47 : ∀ w' : Bool, WP (b_X8_sign_47 m h (zI (sgn l a)) m (tB (w' = true))) (fun r => r.1 = zI (sgn l a) ∧ MOB r.2 m (upd (upd v 13 (tB (w' = true))) 12 (zI (a + if w' = true then (0 : Int) else 1))) ∧ OFF m 1 h r.2) := by
    intro w'
    unfold b_X8_sign_47
    refine wb bz_tB ?_
    refine wpb (pI_M e (by omega)) ?_
    rintro h1 ⟨q1, q2⟩
    refine wb (gI_e q1 rfl) ?_
    refine wb (gI_e q1 rfl) ?_
    rw [upd_ne (show (12 : Nat) ≠ 13 by omega), ha, upd_eq (show (13 : Nat) = 13 from rfl)]
    unfold b_X8_sign_67
    cases w' with
    | true =>
      rw [tB_1 (p := true = true) rfl]
      refine wf (by decide) ?_
      rw [zl0, zI_add]
      refine wpb (pI_M q1 (by omega)) ?_
      rintro h2 ⟨q3, q4⟩
      exact wr ⟨rfl, q3, OFF_trans q2 q4⟩
    | false =>
      rw [tB_0 (p := false = true) (by decide)]
      refine wt rfl ?_
      rw [zl1, zI_add]
      refine wpb (pI_M q1 (by omega)) ?_
      rintro h2 ⟨q3, q4⟩
      exact wr ⟨rfl, q3, OFF_trans q2 q4⟩
  have f24 : WP (b_X8_sign_24 m (zI lo) (zI hi) h (zI (sgn l a))) (fun r => r.1 = zI (sgn l a) ∧ MOB r.2 m (upd (upd v 13 (tB ((w || !decide (lo ≤ sgn l a ∧ sgn l a ≤ hi)) = true))) 12 (zI (a + if (w || !decide (lo ≤ sgn l a ∧ sgn l a ≤ hi)) = true then (0 : Int) else 1))) ∧ OFF m 1 h r.2) := by
    unfold b_X8_sign_24
    refine wb (gI_e e rfl) ?_
    rw [hw]
    have k0 := f47 false
    have k1 := f47 true
    rw [tB_0 (p := false = true) (by decide)] at k0
    rw [tB_1 (p := true = true) rfl] at k1
    cases w with
    | true =>
      rw [tB_1 (p := true = true) rfl]
      refine wf (by decide) ?_
      rw [Bool.true_or]
      rw [← tB_1 (p := true = true) rfl] at k1
      exact k1
    | false =>
      rw [tB_0 (p := false = true) (by decide)]
      refine wt rfl ?_
      refine wb (X8_in_is h (by omega) (by omega) (by omega)) ?_
      rw [Bool.false_or]
      by_cases c : lo ≤ sgn l a ∧ sgn l a ≤ hi
      · rw [tB_1 c, decide_eq_true c]
        refine wf (by decide) ?_
        rw [← tB_0 (p := false = true) (by decide)] at k0
        exact k0
      · rw [tB_0 c, decide_eq_false c]
        refine wt rfl ?_
        rw [← tB_1 (p := true = true) rfl] at k1
        exact k1
  unfold f_X8_sign b_X8_sign_0
  refine wb (kO_e e) ?_
  refine wb (gI_e e rfl) ?_
  refine wb (gI_e e rfl) ?_
  rw [ha, t0]
  by_cases c : l.length ≤ a
  · refine wt ((zI_le (by omega)).mpr (by omega)) ?_
    rw [zm1, ← sgn_out (l := l) (j := (a : Int)) (by omega)]
    exact f24
  · refine wf (fun d => absurd ((zI_le (by omega)).mp d) (by omega)) ?_
    refine wb (gR_e e rfl) ?_
    refine wb (gI_e e rfl) ?_
    rw [ha]
    refine wb (aI_e t1 (by omega)) ?_
    rw [CLU_at t2 (by omega), show iat l a = sgn l a by unfold sgn; rw [if_pos (by omega)]]
    exact f24
theorem fst1_last (P : Nat → Prop) [DecidablePred P] (p n : Nat) : fst1 P p (n + 1) = if fst1 P p n = -1 then (if P (p + n) then ((p + n : Nat) : Int) else -1) else fst1 P p n := by
  induction n generalizing p with
  | zero =>
    rw [fst1_succ]
    rfl
  | succ n ih =>
    rw [fst1_succ, ih (p + 1), fst1_succ P p n]
    by_cases c : P p
    · rw [if_pos c, if_pos c, if_neg (by omega)]
    · rw [if_neg c, if_neg c, show p + 1 + n = p + (n + 1) by omega]
theorem fst1_none {P : Nat → Prop} [DecidablePred P] {p n : Nat} (h : fst1 P p n = -1) : ∀ x, p ≤ x → x < p + n → ¬ P x := by
  induction n generalizing p with
  | zero =>
    intro x h1 h2
    omega
  | succ n ih =>
    intro x h1 h2
    rw [fst1_succ] at h
    by_cases c : P p
    · rw [if_pos c] at h
      omega
    · rw [if_neg c] at h
      by_cases c2 : x = p
      · rw [c2]
        exact c
      · exact ih h x (by omega) (by omega)
theorem fst1_rng (P : Nat → Prop) [DecidablePred P] (p n : Nat) : fst1 P p n = -1 ∨ ((p : Int) ≤ fst1 P p n ∧ fst1 P p n < p + n) := by
  induction n generalizing p with
  | zero => exact Or.inl rfl
  | succ n ih =>
    rw [fst1_succ]
    by_cases c : P p
    · rw [if_pos c]
      omega
    · rw [if_neg c]
      have := ih (p + 1)
      omega
/-- k signs of the command that begins at A are read: where one stands, whether one was wrong -/
def CH (l : List Int) (A k : Nat) (at_ : Nat) (w : Bool) : Prop := (fst1 (fun x => okB l A x = false) (A + 1) k = -1 ∧ at_ = A + 1 + k ∧ w = false) ∨ (fst1 (fun x => okB l A x = false) (A + 1) k ≠ -1 ∧ (at_ : Int) = fst1 (fun x => okB l A x = false) (A + 1) k ∧ w = true)
/-- the reference, having read so far -/
def RD (h : HP) (m : Nat) (v : Nat → Int32) (l : List Int) (A k : Nat) (w : Bool) : Prop := MOB h m v ∧ RTX h m v l ∧ v 13 = tB (w = true) ∧ ∃ a : Nat, v 12 = zI a ∧ a ≤ l.length ∧ CH l A k a w
theorem fst1_okle {l : List Int} {A k : Nat} (hA : A < l.length) : fst1 (fun x => okB l A x = false) (A + 1) k = -1 → A + 1 + k ≤ l.length := by
  intro h
  by_cases c : k = 0
  · omega
  · have h1 := fst1_none h (A + k) (by omega) (by omega)
    by_cases c2 : l.length ≤ A + k
    · exact absurd (okB_out c2) h1
    · omega
theorem sign_ch {h : HP} {m : Nat} {v : Nat → Int32} {l : List Int} {A k : Nat} {w : Bool} (hA : A < l.length) (e : RD h m v l A k w) {lo hi : Int} (hl : 0 ≤ lo ∧ lo ≤ hi ∧ hi < 1000) (hok : w = false → ((lo ≤ sgn l ((A + 1 + k : Nat) : Int) ∧ sgn l ((A + 1 + k : Nat) : Int) ≤ hi) ↔ okB l A (A + 1 + k) = true)) : WP (f_X8_sign h m (zI lo) (zI hi)) (fun r => ∃ v' w', RD r.2 m v' l A (k + 1) w' ∧ (w' = false → w = false ∧ r.1 = zI (sgn l ((A + 1 + k : Nat) : Int))) ∧ (∀ i : Nat, i ≠ 12 → i ≠ 13 → v' i = v i) ∧ OFF m 1 h r.2) := by
  obtain ⟨e0, t, h13, a, h12, ha, hc⟩ := e
  refine wm (X8_sign_is e0 t h12 ha h13 hl) ?_
  rintro ⟨x, h1⟩ ⟨q1, q2, q3⟩
  dsimp only at q1 q2 q3 ⊢
  subst q1
  refine ⟨_, (w || !decide (lo ≤ sgn l a ∧ sgn l a ≤ hi)), ⟨q2, RTX_mv t (q3 _ (by omega)) ?_, ?_, ?_⟩, ?_, fun i h1 h2 => ?_, q3⟩
  · rw [upd_ne (by omega), upd_ne (by omega)]
  · rw [upd_ne (by omega), upd_eq rfl]
  · rcases hc with ⟨c1, c2, c3⟩ | ⟨c1, c2, c3⟩
    · subst c2
      subst c3
      have hk := hok rfl
      by_cases c : lo ≤ sgn l ((A + 1 + k : Nat) : Int) ∧ sgn l ((A + 1 + k : Nat) : Int) ≤ hi
      · have h5 : fst1 (fun x => okB l A x = false) (A + 1) (k + 1) = -1 := by
          rw [fst1_last, if_pos c1, if_neg]
          rw [hk.mp c]
          decide
        have h6 := fst1_okle hA h5
        refine ⟨A + 1 + k + 1, ?_, by omega, Or.inl ⟨h5, by omega, ?_⟩⟩
        · rw [upd_eq rfl, decide_eq_true c, if_neg (by decide)]
          rfl
        · rw [decide_eq_true c]
          rfl
      · have h4 : okB l A (A + 1 + k) = false := Bool.eq_false_iff.mpr (fun d => c (hk.mpr d))
        have h5 : fst1 (fun x => okB l A x = false) (A + 1) (k + 1) = ((A + 1 + k : Nat) : Int) := by
          rw [fst1_last, if_pos c1, if_pos h4]
        refine ⟨A + 1 + k, ?_, ha, Or.inr ⟨by omega, h5.symm, ?_⟩⟩
        · rw [upd_eq rfl, decide_eq_false c, if_pos (show (false || !false) = true from rfl), Int.add_zero]
        · rw [decide_eq_false c]
          rfl
    · subst c3
      have h5 : fst1 (fun x => okB l A x = false) (A + 1) (k + 1) = fst1 (fun x => okB l A x = false) (A + 1) k := by
        rw [fst1_last, if_neg c1]
      refine ⟨a, ?_, ha, Or.inr ⟨by omega, by omega, rfl⟩⟩
      rw [upd_eq rfl, Bool.true_or, if_pos rfl, Int.add_zero]
  · intro hw
    have hw' : w = false := by
      cases w with
      | true => exact absurd hw (by rw [Bool.true_or]; decide)
      | false => rfl
    refine ⟨hw', ?_⟩
    rcases hc with ⟨c1, c2, c3⟩ | ⟨c1, c2, c3⟩
    · rw [c2]
    · rw [c3] at hw'
      exact absurd hw' (by decide)
  · rw [upd_ne h1, upd_ne h2]
theorem RD_v {h : HP} {m : Nat} {v : Nat → Int32} {l : List Int} {A k : Nat} {w : Bool} (e : RD h m v l A k w) {i : Nat} {x : Int32} (hi : i = 14 ∨ i = 15 ∨ i = 16) : WP (pI 8 i h m x) (fun h' => RD h' m (upd v i x) l A k w ∧ OFF m 1 h h') := by
  obtain ⟨e0, t, h13, a, h12, ha, hc⟩ := e
  refine wm (pI_M e0 (by omega)) ?_
  rintro h1 ⟨q1, q2⟩
  exact ⟨⟨q1, RTX_mv t (q2 _ (by omega)) (upd_ne (by omega)), (upd_ne (by omega)).trans h13, a, (upd_ne (by omega)).trans h12, ha, hc⟩, q2⟩
/-- two signs -/
theorem key_ch {h : HP} {m : Nat} {v : Nat → Int32} {l : List Int} {A k : Nat} {w : Bool} (hA : A < l.length) (e : RD h m v l A k w) (hok : ∀ i, i < 2 → ((48 ≤ sgn l ((A + 1 + (k + i) : Nat) : Int) ∧ sgn l ((A + 1 + (k + i) : Nat) : Int) ≤ 57) ↔ okB l A (A + 1 + (k + i)) = true)) : WP (f_X8_key h m) (fun r => ∃ v' w', RD r.2 m v' l A (k + 2) w' ∧ (w' = false → w = false ∧ r.1 = zI (D2 l ((A + 1 + k : Nat) : Int))) ∧ (∀ i : Nat, i ≠ 12 → i ≠ 13 → v' i = v i) ∧ OFF m 1 h r.2) := by
  unfold f_X8_key b_X8_key_0
  simp only [show (48 : Int32) = zI 48 by decide, show (57 : Int32) = zI 57 by decide, show (10 : Int32) = zI 10 by decide]
  refine wb (kO_e e.1) ?_
  refine wpb (sign_ch hA e (by omega) (fun _ => hok 0 (by omega))) ?_
  rintro ⟨x, h1⟩ ⟨v1, w1, e1, k1, f1, o1⟩
  refine wpb (sign_ch hA e1 (by omega) (fun _ => hok 1 (by omega))) ?_
  rintro ⟨y, h2⟩ ⟨v2, w2, e2, k2, f2, o2⟩
  refine wr ⟨v2, w2, e2, fun hw => ?_, fun i i1 i2 => (f2 i i1 i2).trans (f1 i i1 i2), OFF_trans o1 o2⟩
  obtain ⟨g1, g2⟩ := k2 hw
  obtain ⟨g3, g4⟩ := k1 g1
  refine ⟨g3, ?_⟩
  dsimp only at g2 g4 ⊢
  rw [g2, g4, zI_sub, zI_mul, zI_add, zI_sub]
  unfold D2
  rw [show ((A + 1 + (k + 1) : Nat) : Int) = ((A + 1 + k : Nat) : Int) + 1 by omega]
  exact congrArg zI (by omega)
