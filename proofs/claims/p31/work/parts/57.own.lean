/-! what a turn of the law does -/
def SAME (A A' : AB) : Prop := A'.1.2.2.1 = A.1.2.2.1 ∧ ∀ k i : Int, vw A'.1 k i = vw A.1 k i
def WROTE (A A' : AB) : Prop := A'.1.2.2.2.1 = A.1.2.2.2.1 + 1 ∧ (A'.1.1.length = A.1.1.length + 1) ∧ A'.1.2.2.1 = A.1.2.2.1 ∧ ∀ k i : Int, 0 ≤ i → i < A.1.2.2.1.length → vw A'.1 k i = vw A.1 k i
def LEFT (kd : Int32) (A A' : AB) : Prop := A'.1.2.2.2.1 = A.1.2.2.2.1 ∧ (∀ k : Int, vw A'.1 k (-1) = vw A.1 k (-1)) ∧ (kd = 11 ∨ kd = 12 ∨ SAME A A')
def DR (x : Nat) (A : AB) (M : Int) (kd : Int32) (r : Int32 × HP) : Prop := ∃ A', CLS r.2 x A' ∧ LOK A' (M + 1) ∧ (∃ z : Int, r.1 = zI z ∧ 0 ≤ z ∧ z < 2000000) ∧ (WROTE A A' ∨ LEFT kd A A')
theorem DR_no {x : Nat} {A : AB} {M : Int} {kd : Int32} {h : HP} (e : CLS h x A) (H : LOK A M) (hM : M + 1 < 1000000) : DR x A M kd (0, h) := ⟨A, e, LOK_up H (by omega), ⟨0, zl0, by omega, by omega⟩, Or.inr ⟨rfl, fun _ => rfl, Or.inr (Or.inr ⟨rfl, fun _ _ => rfl⟩)⟩⟩
theorem wadd_W {A : AB} {M : Int} (H : LOK A M) (p q v : Int) : WROTE A (wadd A.1 p q v, push A.2.1 A.1, A.2.2) := ⟨rfl, List.length_append, rfl, fun k i h1 h2 => vw_wadd H.1.1.1 p q v k ⟨h1, h2⟩⟩
theorem vw_now {S T : SG} (h : T.1 = S.1 ∧ T.2.2.2.1 = S.2.2.2.1) (k : Int) : vw T k (-1) = vw S k (-1) := by
  unfold vw
  rw [lim_m1, lim_m1, h.1, h.2]
theorem room_is {A : AB} {M : Int} (H : LOK A M) {room : Int} (hr : room = 0 ∨ (room = 48 - A.1.1.length ∧ eOf A.1 (-1) - sOf A.1 (-1) < 7)) : -100 < room ∧ room < 100 ∧ (0 < room → A.1.1.length < 48 ∧ eOf A.1 (-1) - sOf A.1 (-1) < 7) := by
  have := H.1.1.2.1
  omega
theorem does_put {x : Nat} {A : AB} {M : Int} {kd : Int32} {h : HP} (e : CLS h x A) (H : LOK A M) (hM : M + 1 < 1000000) {k v : Int} (hk : 0 ≤ k ∧ k < 40) (hv : 1 ≤ v ∧ v ≤ 999) (hl : A.1.1.length < 48) (h7 : eOf A.1 (-1) - sOf A.1 (-1) < 7) {y z : Int32} (hy : y = zI k) (hz : z = zI v) : WP ((f_X7_put h x y z).bind fun y3 => (rt y3.1).bind fun r4 => some (r4, y3.2)) (DR x A M kd) := by
  refine wrt (N_put e H.1.1 (k := k) (v := v) (by omega) hv hl hy hz) fun h' e' => wr ?_
  have hM2 := H.1.1.1.2.2.2.2.2.1
  exact ⟨_, e', L_wadd H hM (by omega) (by omega) (fun _ => rfl) hl h7, ⟨_, rfl, by omega, by omega⟩, Or.inl (wadd_W H k k v)⟩
theorem does_108 {x : Nat} {A : AB} {M : Int} {kd : Int32} {h : HP} (e : CLS h x A) (H : LOK A M) (hM : M + 1 < 1000000) (v1 : Int32) {room k : Int} (hr : room = 0 ∨ (room = 48 - A.1.1.length ∧ eOf A.1 (-1) - sOf A.1 (-1) < 7)) (hk : 0 ≤ k ∧ k < 40) : WP (b_L_does_108 x v1 h (zI room) (zI k)) (DR x A M kd) := by
  obtain ⟨r1, r2, r3⟩ := room_is H hr
  unfold b_L_does_108
  by_cases c : room ≤ 0
  · rw [zl0]
    exact wt ((zI_le (by omega)).mpr c) (wr (DR_no e H hM))
  · obtain ⟨a, a1, a2, a3⟩ := low_is h (jishr v1 10) (n := 999) (by omega) (y := 999) (by decide)
    rw [if_neg (fun d => by rw [zl0] at d; exact c ((zI_le (by omega)).mp d))]
    refine wb a1 ?_
    have h1 := r3 (by omega)
    exact does_put e H hM hk (v := 1 + a) (by omega) h1.1 h1.2 rfl (by rw [zl1, zI_add])
theorem does_134 {x : Nat} {A : AB} {M : Int} {kd : Int32} {h : HP} (e : CLS h x A) (H : LOK A M) (hM : M + 1 < 1000000) (v1 : Int32) {room k : Int} (hr : room = 0 ∨ (room = 48 - A.1.1.length ∧ eOf A.1 (-1) - sOf A.1 (-1) < 7)) (hk : 0 ≤ k ∧ k < 40) : WP (b_L_does_134 x v1 h (zI room) (zI k)) (DR x A M kd) := by
  obtain ⟨r1, r2, r3⟩ := room_is H hr
  unfold b_L_does_134
  by_cases c : room ≤ 0
  · rw [zl0]
    exact wt ((zI_le (by omega)).mpr c) (wr (DR_no e H hM))
  · obtain ⟨a, a1, a2, a3⟩ := low_is h (jishr v1 10) (n := 30) (by omega) (y := 30) (by decide)
    rw [if_neg (fun d => by rw [zl0] at d; exact c ((zI_le (by omega)).mp d))]
    refine wb a1 ?_
    have h1 := r3 (by omega)
    refine wrt (N_bury e H.1.1 (p := k) (q := k + a) (by omega) h1.1 rfl (zI_add _ _)) fun h' e' => wr ?_
    have hc := cnt_b (fun q => vw A.1 q (-1) ≠ 0) k.toNat (k + a + 1 - k).toNat
    exact ⟨_, e', L_wadd H hM (by omega) (by omega) (fun d => absurd d (by omega)) h1.1 h1.2, ⟨_, rfl, by omega, by omega⟩, Or.inl (wadd_W H k (k + a) 0)⟩
theorem does_190 {x : Nat} {A : AB} {M : Int} {kd : Int32} {h : HP} (e : CLS h x A) (H : LOK A M) (hM : M + 1 < 1000000) {room k : Int} (hr : room = 0 ∨ (room = 48 - A.1.1.length ∧ eOf A.1 (-1) - sOf A.1 (-1) < 7)) (hk : 0 ≤ k ∧ k < 40) : WP (b_L_does_190 x h (zI room) (zI k)) (DR x A M kd) := by
  obtain ⟨r1, r2, r3⟩ := room_is H hr
  unfold b_L_does_190
  by_cases c : room ≤ 0
  · rw [zl0]
    exact wt ((zI_le (by omega)).mpr c) (wr (DR_no e H hM))
  · rw [if_neg (fun d => by rw [zl0] at d; exact c ((zI_le (by omega)).mp d))]
    have h1 := r3 (by omega)
    exact does_put e H hM hk (v := 7) (by omega) h1.1 h1.2 rfl (by decide)
theorem does_159 {x : Nat} {A : AB} {M : Int} {kd : Int32} {h : HP} (e : CLS h x A) (H : LOK A M) (hM : M + 1 < 1000000) {room k : Int} (hr : room = 0 ∨ (room = 48 - A.1.1.length ∧ eOf A.1 (-1) - sOf A.1 (-1) < 7)) (hk : 0 ≤ k ∧ k < 40) : WP (b_L_does_159 x h (zI room) (zI k) (zI A.1.2.1.length)) (DR x A M kd) := by
  have hS := H.1.1.2
  unfold SML at hS
  have hp := plc H.1.1.1.2.2.2.2.2.2 (i := -1) (by omega)
  have hm := eOf_m1 A.1
  unfold b_L_does_159
  refine wrt (N_about e H.1.1 (w := 1) (by omega) (by decide)) fun h1 e1 => ?_
  dsimp only
  rw [show tld A.1 1 = eOf A.1 (-1) - sOf A.1 (-1) from rfl]
  by_cases c1 : eOf A.1 (-1) - sOf A.1 (-1) ≤ 0
  · rw [zl0]
    exact wt ((zI_le (by omega)).mpr c1) (does_190 e1 H hM hr hk)
  · rw [if_neg (fun d => by rw [zl0] at d; exact c1 ((zI_le (by omega)).mp d))]
    rw [show (5 : Int32) = zI 5 by decide]
    by_cases c2 : (5 : Int) ≤ A.1.2.1.length
    · exact wt ((zI_le (by omega)).mpr c2) (does_190 e1 H hM hr hk)
    · rw [if_neg (fun d => c2 ((zI_le (by omega)).mp d))]
      refine wrt (N_about e1 H.1.1 (w := 4) (by omega) (by decide)) fun h2 e2 => ?_
      dsimp only
      rw [show tld A.1 4 = A.1.1.length from rfl, show (28 : Int32) = zI 28 by decide]
      by_cases c3 : (28 : Int) ≤ A.1.1.length
      · exact wt ((zI_le (by omega)).mpr c3) (does_190 e2 H hM hr hk)
      · rw [if_neg (fun d => c3 ((zI_le (by omega)).mp d))]
        have hF := flF_few H.1.1.1 ⟨by omega, H.2.2⟩ (by omega) (by omega)
        refine wrt (N_flush e2 H.1.1 hF) fun h3 e3 => wr ?_
        have h9 := (flF_0 hF).2
        exact ⟨_, e3, L_flush H hM hF, ⟨_, rfl, by omega, by omega⟩, Or.inr ⟨rfl, fun q => vw_flS H.1.1.1 q (-1), Or.inr (Or.inr ⟨rfl, fun q i => vw_flS H.1.1.1 q i⟩)⟩⟩
theorem does_close {x : Nat} {A : AB} {M : Int} {kd : Int32} {h : HP} (e : CLS h x A) (H : LOK A M) (hM : M + 1 < 1000000) (hk : kd = 11 ∨ kd = 12) {i : Int} (hi : 0 ≤ i ∧ i < A.1.2.2.1.length) {y : Int32} (hy : y = zI i) : WP ((f_X7_close h x y).bind fun y3 => (rt y3.1).bind fun r4 => some (r4, y3.2)) (DR x A M kd) := by
  have hS := H.1.1.2
  unfold SML at hS
  refine wrt (N_close e H.1.1 hi hy) fun h' e' => wr ?_
  exact ⟨_, e', L_close H hM hi, ⟨_, rfl, by omega, by omega⟩, Or.inr ⟨rfl, fun q => vw_now ⟨rfl, rfl⟩ q, hk.elim Or.inl (fun d => Or.inr (Or.inl d))⟩⟩
theorem does_22 {x : Nat} {A : AB} {M : Int} {h : HP} (e : CLS h x A) (H : LOK A M) (hM : M + 1 < 1000000) (v1 : Int32) {room : Int} (hr : room = 0 ∨ (room = 48 - A.1.1.length ∧ eOf A.1 (-1) - sOf A.1 (-1) < 7)) : WP (b_L_does_22 x v1 h (zI room)) (DR x A M (v1 &&& 15)) := by
  have hS := H.1.1.2
  unfold SML at hS
  obtain ⟨k, k1, k2, k3⟩ := low_is h (jishr v1 4) (n := 40) (by omega) (y := 40) (by decide)
  unfold b_L_does_22
  refine wb k1 ?_
  refine wrt (N_about e H.1.1 (w := 2) (by omega) (by decide)) fun h1 e1 => ?_
  dsimp only
  rw [show tld A.1 2 = A.1.2.1.length from rfl]
  have hk : 0 ≤ k ∧ k < 40 := by omega
  have g0 := does_108 (kd := v1 &&& 15) e1 H hM v1 hr hk
  have g1 := does_134 (kd := v1 &&& 15) e1 H hM v1 hr hk
  have g2 := does_159 (kd := v1 &&& 15) e1 H hM hr hk
  by_cases c0 : v1 &&& 15 = 0
  · exact wt c0 g0
  refine wf c0 ?_
  by_cases c1 : v1 &&& 15 = 1
  · exact wt c1 g0
  refine wf c1 ?_
  by_cases c2 : v1 &&& 15 = 2
  · exact wt c2 g0
  refine wf c2 ?_
  by_cases c3 : v1 &&& 15 = 3
  · exact wt c3 g0
  refine wf c3 ?_
  by_cases c4 : v1 &&& 15 = 4
  · exact wt c4 g0
  refine wf c4 ?_
  by_cases c5 : v1 &&& 15 = 5
  · exact wt c5 g1
  refine wf c5 ?_
  by_cases c6 : v1 &&& 15 = 6
  · exact wt c6 g1
  refine wf c6 ?_
  by_cases c7 : v1 &&& 15 = 7
  · exact wt c7 g1
  refine wf c7 ?_
  by_cases c8 : v1 &&& 15 = 8
  · exact wt c8 g2
  refine wf c8 ?_
  by_cases c9 : v1 &&& 15 = 9
  · exact wt c9 g2
  refine wf c9 ?_
  by_cases ca : v1 &&& 15 = 10
  · exact wt ca g2
  refine wf ca ?_
  clear g0 g1 g2
  obtain ⟨b, b1, b2⟩ := bit_is (jishr v1 4)
  by_cases cb : v1 &&& 15 = 11
  · refine wt cb ?_
    refine wrt (N_about e1 H.1.1 (w := 3) (by omega) (by decide)) fun h2 e2 => ?_
    dsimp only
    rw [show tld A.1 3 = A.1.2.2.1.length from rfl, show (2 : Int32) = zI 2 by decide]
    by_cases d1 : (2 : Int) ≤ A.1.2.2.1.length
    · exact wt ((zI_le (by omega)).mpr d1) (does_close e2 H hM (Or.inl cb) (i := b) (by omega) b2)
    · refine wf (fun d => d1 ((zI_le (by omega)).mp d)) ?_
      refine wrt (N_open e2 H.1.1 (by omega)) fun h3 e3 => wr ?_
      exact ⟨_, e3, L_open H hM (by omega), ⟨_, rfl, by omega, by omega⟩, Or.inr ⟨rfl, fun q => vw_now ⟨rfl, rfl⟩ q, Or.inl cb⟩⟩
  refine wf cb ?_
  by_cases cc : v1 &&& 15 = 12
  · refine wt cc ?_
    refine wrt (N_about e1 H.1.1 (w := 3) (by omega) (by decide)) fun h2 e2 => ?_
    dsimp only
    rw [show tld A.1 3 = A.1.2.2.1.length from rfl]
    by_cases d1 : (A.1.2.2.1.length : Int) ≤ 0
    · exact wt (by rw [zl0]; exact (zI_le (by omega)).mpr d1) (wr (DR_no e2 H hM))
    · refine wf (fun d => by rw [zl0] at d; exact d1 ((zI_le (by omega)).mp d)) ?_
      by_cases d2 : (jishr v1 4) &&& 1 = 0
      · exact wt d2 (does_close e2 H hM (Or.inr cc) (i := 0) (by omega) zl0)
      · exact wf d2 (wr (DR_no e2 H hM))
  refine wf cc ?_
  refine wpb (C_best e1 H.1.1) ?_
  rintro ⟨r, h2⟩ ⟨q1, e2, -⟩
  dsimp only at q1 e2
  subst q1
  dsimp only
  rcases bst_ok A.1 A.1.2.1.length 0 (-1) 0 (Or.inl rfl) with hb | hb
  · rw [hb]
    exact wf (by decide) (wr (DR_no e2 H hM))
  · have hi := mgF_0 hb
    refine wt (by rw [zl0]; exact (zI_le (by omega)).mpr hi.1.1) ?_
    refine wrt (N_merge e2 H.1.1 hb rfl) fun h3 e3 => wr ?_
    obtain ⟨p1, p2, p3, p4, -⟩ := mg_pre H.1.1.1.2.2.2.2.2.2 hi.1
    exact ⟨_, e3, L_merge H hM hb, ⟨_, rfl, by omega, by omega⟩, Or.inr ⟨rfl, fun q => vw_mgS H.1.1.1 hi.1 q (-1), Or.inr (Or.inr ⟨rfl, fun q i => vw_mgS H.1.1.1 hi.1 q i⟩)⟩⟩
theorem does_is {x : Nat} {A : AB} {M : Int} {h : HP} (e : CLS h x A) (H : LOK A M) (hM : M + 1 < 1000000) (v1 : Int32) : WP (f_L_does h x v1) (DR x A M (v1 &&& 15)) := by
  have hS := H.1.1.2
  unfold SML at hS
  have hp := plc H.1.1.1.2.2.2.2.2.2 (i := -1) (by omega)
  unfold f_L_does b_L_does_0
  refine wrt (N_about e H.1.1 (w := 1) (by omega) (by decide)) fun h1 e1 => ?_
  dsimp only
  rw [show tld A.1 1 = eOf A.1 (-1) - sOf A.1 (-1) from rfl, show (7 : Int32) = zI 7 by decide]
  by_cases c1 : 7 ≤ eOf A.1 (-1) - sOf A.1 (-1)
  · refine wt ((zI_le (by omega)).mpr c1) ?_
    rw [zl0]
    exact does_22 e1 H hM v1 (Or.inl rfl)
  · refine wf (fun d => c1 ((zI_le (by omega)).mp d)) ?_
    refine wrt (N_about e1 H.1.1 (w := 4) (by omega) (by decide)) fun h2 e2 => ?_
    dsimp only
    rw [show tld A.1 4 = A.1.1.length from rfl, show (48 : Int32) = zI 48 by decide, zI_sub]
    exact does_22 e2 H hM v1 (Or.inr ⟨rfl, by omega⟩)
