/-! the reference flushes -/
theorem CLR_A {h : HP} {m : Nat} {v : Nat → Int32} {S : SG} {ls : List WR} {D : Nat → Bool} (e : CLR h m v S ls D) : ALO h m := by
  obtain ⟨k0, -, k2, ⟨g, k3, k4⟩, k5, ⟨d, k6, k7⟩⟩ := e
  exact ⟨⟨g, k3⟩, d, D, k6, k7⟩
theorem zm1 : (-1 : Int32) = zI (-1) := by decide
theorem X8_isRoomFor_is {h : HP} {m : Nat} {v : Nat → Int32} {S : SG} {ls : List WR} {D : Nat → Bool} (e : CLR h m v S ls D) {p q : Int} (hp : -1000 < p ∧ p < 1000) (hq : -1000 < q ∧ q < 1000) : f_X8_isRoomFor h m (zI p) (zI q) = some (tB ((S.1.length : Int) + ls.length - (q - p) ≤ 48)) := by
  have hb := REF_b (CLR_R e)
  have h1 := X8_all_is (CLR_R e)
  obtain ⟨k0, -, k2, -, k5, -⟩ := e
  unfold f_X8_isRoomFor b_X8_isRoomFor_0
  rw [hb.2, Option.bind_some, h1, Option.bind_some, gI_e k0 rfl, Option.bind_some, k2, zI_sub, zI_add, zI_sub, show (48 : Int32) = zI 48 by decide]
  by_cases c : (48 : Int) < (S.1.length : Int) + ls.length - (q - p)
  · rw [if_pos ((zI_lt (by omega)).mpr c), tB_0 (by omega)]
  · rw [if_neg (fun d => c ((zI_lt (by omega)).mp d)), tB_1 (by omega)]
theorem clP_len {S : SG} {M : Int} (H : SOK S M) (h48 : S.1.length ≤ 48) (hY : S.2.2.1.length ≤ 2) {nw ol : Int} (h : 0 ≤ sOf S ol ∧ sOf S ol ≤ eOf S nw ∧ eOf S nw ≤ S.1.length) : (clP S nw ol).length ≤ 348 := by
  obtain ⟨h1, h2, h3, h4, h5, h6, h7⟩ := H
  exact clL_len2 h1 h3 h2 (by omega) (by omega) h48 hY
theorem REF_MOB {h : HP} {m : Nat} {S : SG} (e : REF h m S) {v : Nat → Int32} (e0 : MOB h m v) : ∃ f, MOB h m v ∧ ARR h (m + 1) 204 f ∧ RW f S := by
  obtain ⟨v', f, k0, k1, k2⟩ := e
  exact ⟨f, e0, k1, k2⟩
theorem upd_self (v : Nat → Int32) (k : Nat) : upd v k (v k) = v := by
  funext i
  by_cases c : i = k
  · rw [upd_eq c, c]
  · rw [upd_ne c]
/-- what a try of the reference leaves: the state as it was; if it may be done, what it wants is laid out -/
def FLT (m : Nat) (v : Nat → Int32) (S : SG) (h : HP) (F : Int) (K : List WR) (r : Int32 × HP) : Prop := r.1 = zI F ∧ (∃ x, MOB r.2 m (upd v 10 x) ∧ (F = 0 → ∃ D, CLR r.2 m (upd v 10 x) S K D)) ∧ REF r.2 m S ∧ ALO r.2 m ∧ OFC m h r.2
theorem FLT_no {h : HP} {m : Nat} {v : Nat → Int32} {S : SG} (e : REF h m S) (e0 : MOB h m v) (al : ALO h m) {F : Int} {K : List WR} (hF : F ≠ 0) {x : Int32} (hx : x = zI F) : WP (some (x, h)) (FLT m v S h F K) := by
  refine wr ⟨hx, ⟨v 10, ?_, fun d => absurd d hF⟩, e, al, fun _ _ _ _ => rfl⟩
  rw [upd_self]
  exact e0
theorem X8_flushFault_is {h : HP} {m : Nat} {v : Nat → Int32} {S : SG} (e : REF h m S) (e0 : MOB h m v) (al : ALO h m) {M : Int} (H : SOK S M) : WP (f_X8_flushFault h m) (FLT m v S h (flF S) (flK S)) := by
  have hb := REF_b e
  have hE := H.2.2.2.2.2.2
  have hp := plc hE (i := -1) (by omega)
  have hm1 := eOf_m1 S
  obtain ⟨f, -, k1, ⟨b, u0, u1, u2, u3, u4, u5, u6, u7⟩⟩ := REF_MOB e e0
  have hlen := clP_len H (by omega) (by omega) (nw := -1) (ol := -1) (by omega)
  unfold f_X8_flushFault b_X8_flushFault_0
  simp only [show (6 : Int32) = zI 6 by decide, show (5 : Int32) = zI 5 by decide, zl0, zl1, zm1, zI_neg]
  refine wb hb.2 ?_
  refine wb (gR_e e0 rfl) ?_
  refine wb (aI_v k1 (z := 6) (by omega) u2) ?_
  by_cases c1 : eOf S (-1) - sOf S (-1) = 0
  · refine wt ((zI_inj (by omega)).mpr c1) ?_
    have hF : flF S = 1 := by
      unfold flF
      rw [if_pos (Or.inl c1)]
    exact FLT_no e e0 al (by omega) (by rw [hF])
  · refine wf (fun d => c1 ((zI_inj (by omega)).mp d)) ?_
    refine wb (gR_e e0 rfl) ?_
    refine wb (aI_v k1 (z := 0) (by omega) u0) ?_
    by_cases c2 : S.2.1.length = 5
    · refine wt ((zI_inj (by omega)).mpr (by omega)) ?_
      have hF : flF S = 1 := by
        unfold flF
        rw [if_pos (Or.inr c2)]
      exact FLT_no e e0 al (by omega) (by rw [hF])
    · refine wf (fun d => c2 (by have := (zI_inj (by omega)).mp d; omega)) ?_
      refine wb (X8_begin_is e (r := -1) (by omega)) ?_
      refine wb (X8_all_is e) ?_
      refine wb (gR_e e0 rfl) ?_
      refine wb (aI_v k1 (z := 0) (by omega) u0) ?_
      have key : ∀ o : Bool, o = decide ((-1 : Int) = S.2.1.length - 1) → WP (b_X8_flushFault_46 m h m (zI (sOf S (-1))) (zI S.1.length) (tB (o = true))) (FLT m v S h (flF S) (flK S)) := by
        intro o ho
        unfold b_X8_flushFault_46
        have hlen' : (clL S.1 S.2.2.1 (sOf S (-1)).toNat S.1.length o).length ≤ 348 := by
          rw [ho, ← show (eOf S (-1)).toNat = S.1.length by omega]
          exact hlen
        have hc := X8_clean_is e e0 al H.1 H.2.1 H.2.2.1 (SOK_Y H) H.2.2.2.2.2.1.2.2 (p := (sOf S (-1)).toNat) (q := S.1.length) (o := o) (by omega) (Nat.le_refl _) (by omega)
        rw [show (((sOf S (-1)).toNat : Nat) : Int) = sOf S (-1) by omega] at hc
        have hK : clL S.1 S.2.2.1 (sOf S (-1)).toNat S.1.length o = flK S := by
          rw [ho, ← show (eOf S (-1)).toNat = S.1.length by omega]
          rfl
        rw [hK] at hc
        refine wpb hc ?_
        rintro h1 ⟨⟨D, q1⟩, q2⟩
        simp only [zm1, zl0]
        refine wb (X8_begin_is (CLR_R q1) (r := -1) (by omega)) ?_
        refine wb (X8_all_is (CLR_R q1)) ?_
        refine wb (X8_isRoomFor_is q1 (by omega) (by omega)) ?_
        have hF : flF S = if sOf S (-1) + (flK S).length ≤ 48 then 0 else 1 := by
          unfold flF
          rw [if_neg (by omega)]
        by_cases c3 : sOf S (-1) + (flK S).length ≤ 48
        · rw [if_pos c3] at hF
          rw [tB_1 (by omega)]
          refine wf (by decide) ?_
          refine wr ⟨by rw [hF], ⟨_, q1.1, fun _ => ⟨D, q1⟩⟩, CLR_R q1, CLR_A q1, q2⟩
        · rw [if_neg c3] at hF
          rw [tB_0 (by omega)]
          refine wt rfl ?_
          refine wr ⟨by rw [hF]; rfl, ⟨_, q1.1, fun _ => ⟨D, q1⟩⟩, CLR_R q1, CLR_A q1, q2⟩
      by_cases c3 : S.2.1.length = 0
      · refine wt ((zI_inj (by omega)).mpr (by omega)) ?_
        have := key true (decide_eq_true (by omega)).symm
        rw [tB_1 (p := true = true) rfl] at this
        exact this
      · refine wf (fun d => c3 (by have := (zI_inj (by omega)).mp d; omega)) ?_
        have := key false (decide_eq_false (by omega)).symm
        rw [tB_0 (p := false = true) (by decide)] at this
        exact this
theorem flushes_35 {m : Nat} {v : Nat → Int32} {r : Nat} (hr : r ≤ 4) {L : Int} (hv : v 10 = zI L) {F0 : Nat → Int32} {h0 : HP} (hF0 : F0 0 = zI r) : ∀ (i n : Nat) (h : HP) (F : Nat → Int32), i < n → i ≤ r → MOB h m v → ARR h (m + 1) 204 F → OFF (m + 1) 1 h0 h → (∀ x : Nat, F x = if i + 1 < x ∧ x ≤ r + 1 then F0 (x - 1) else F0 x) → WP (b_X8_flushes_35 m n h (zI i)) (fun r' => r'.1 = zI L ∧ (∃ F', ARR r'.2 (m + 1) 204 F' ∧ ∀ x : Nat, F' x = if x = 0 then zI (r + 1) else if x = 1 then zI L else if x ≤ r + 1 then F0 (x - 1) else F0 x) ∧ OFF (m + 1) 1 h0 r'.2) := by
  intro i
  induction i with
  | zero =>
    intro n h F hn hi e0 e1 o hF
    obtain ⟨n, rfl⟩ : ∃ k, n = k + 1 := ⟨n - 1, by omega⟩
    unfold b_X8_flushes_35 c_X8_flushes_35
    simp only [zl0, zl1]
    refine wt ((zI_le (by omega)).mpr (by omega)) ?_
    refine wb (gR_e e0 rfl) ?_
    refine wb (gI_e e0 rfl) ?_
    rw [hv]
    refine wb (wI_e e1 (z := 1) (by omega)) ?_
    have e0' := MOB_ne (e := .inl (0, 204, .inl (upd F (1 : Int).toNat (zI L)))) e0 (show m ≠ m + 1 by omega)
    refine wb (gR_e e0' rfl) ?_
    refine wb (aI_v (ARR_eq _ _ _ _) (z := 0) (x := zI r) (by omega) (by rw [upd_ne (by omega)]; exact (hF 0).trans ((if_neg (by omega)).trans hF0))) ?_
    rw [zI_add]
    refine wb (wI_e (ARR_eq _ _ _ _) (z := 0) (by omega)) ?_
    rw [hup_hup]
    have e0'' := MOB_ne (e := .inl (0, 204, .inl (upd (upd F (1 : Int).toNat (zI L)) (0 : Int).toNat (zI (r + 1))))) e0 (show m ≠ m + 1 by omega)
    refine wb (gI_e e0'' rfl) ?_
    refine wr ⟨hv, ⟨_, ARR_eq _ _ _ _, fun x => ?_⟩, OFF_up o (by omega)⟩
    by_cases c0 : x = 0
    · rw [upd_eq (by omega), if_pos c0]
    · rw [upd_ne (by omega), if_neg c0]
      by_cases c1 : x = 1
      · rw [upd_eq (by omega), if_pos c1]
      · rw [upd_ne (by omega), if_neg c1, hF x]
        by_cases c2 : x ≤ r + 1
        · rw [if_pos c2, if_pos (by omega)]
        · rw [if_neg c2, if_neg (by omega)]
  | succ i ih =>
    intro n h F hn hi e0 e1 o hF
    obtain ⟨n, rfl⟩ : ∃ k, n = k + 1 := ⟨n - 1, by omega⟩
    unfold b_X8_flushes_35 c_X8_flushes_35
    simp only [zl0, zl1, zI_add, zI_sub, zI_neg]
    refine wf (fun d => absurd ((zI_le (by omega)).mp d) (by omega)) ?_
    refine wb (gR_e e0 rfl) ?_
    refine wb (gR_e e0 rfl) ?_
    refine wb (aI_e e1 (by omega)) ?_
    refine wb (wI_e e1 (by omega)) ?_
    have h9 := ih n _ (upd F (1 + ((i + 1 : Nat) : Int)).toNat (F (1 + ((i + 1 : Nat) : Int) - 1).toNat)) (by omega) (by omega) (MOB_ne e0 (show m ≠ m + 1 by omega)) (ARR_eq h (m + 1) 204 _) (OFF_up o (by omega)) (fun x => by
      by_cases c : x = i + 2
      · rw [upd_eq (by omega), if_pos (by omega), hF, if_neg (by omega)]
        congr 1
        omega
      · rw [upd_ne (by omega), hF x]
        by_cases c2 : i + 1 + 1 < x ∧ x ≤ r + 1
        · rw [if_pos c2, if_pos (by omega)]
        · rw [if_neg c2, if_neg (by omega)])
    rw [show (i : Int) = ((i + 1 : Nat) : Int) + -1 by omega] at h9
    exact h9
theorem RW_mk {F f : Nat → Int32} {S : SG} {T : SG} (q0 : RW f S) (hb : T.2.1.length ≤ 5 ∧ T.1.length ≤ 48) (hY : T.2.2.1 = S.2.2.1) (hl : T.2.2.2.1 = S.2.2.2.1) (h0 : F 0 = zI T.2.1.length) (h1 : ∀ i : Nat, i < T.2.1.length → F (1 + i) = zI (eOf T i - sOf T i)) (h6 : F 6 = zI (eOf T (-1) - sOf T (-1))) (h7 : ∀ x : Nat, 7 ≤ x → x < 11 → F x = f x) (h11 : F 11 = zI T.2.2.2.2) (hr : ROWS F T.1) : RW F T := by
  obtain ⟨⟨b1, b2, b3⟩, u0, u1, u2, u3, u4, u5, u6, u7⟩ := q0
  refine ⟨⟨hb.1, hb.2, by rw [hY]; exact b3⟩, h0, h1, h6, ?_, fun i hi => ?_, ?_, h11, hr⟩
  · rw [h7 7 (by omega) (by omega), hY]
    exact u3
  · rw [hY] at hi ⊢
    rw [h7 (8 + i) (by omega) (by omega)]
    exact u4 i hi
  · rw [h7 10 (by omega) (by omega), hl]
    exact u5
theorem app_sz {T S : SG} {X : Int} (h : T.2.1 = S.2.1 ++ [X]) : (eOf T 0 = X ∧ sOf T 0 = sOf S (-1) ∧ sOf T (-1) = X) ∧ ∀ i : Nat, 1 ≤ i → i ≤ S.2.1.length → eOf T i = eOf S ((i - 1 : Nat) : Int) ∧ sOf T i = sOf S ((i - 1 : Nat) : Int) := by
  have hl : T.2.1.length = S.2.1.length + 1 := by
    rw [h, List.length_append, List.length_singleton]
  unfold eOf sOf
  rw [hl, h]
  refine ⟨⟨?_, ?_, ?_⟩, fun i h1 h2 => ⟨?_, ?_⟩⟩
  · rw [if_pos (by omega), show ((S.2.1.length + 1 : Nat) : Int) - 1 - 0 = (S.2.1.length : Nat) by omega, iat_last rfl]
  · by_cases c2 : S.2.1.length = 0
    · rw [iat_out (by omega), iat_out (by omega)]
    · rw [show ((S.2.1.length + 1 : Nat) : Int) - 2 - 0 = (S.2.1.length - 1 : Nat) by omega, iat_app (by omega)]
      congr 1
      omega
  · rw [show ((S.2.1.length + 1 : Nat) : Int) - 2 - -1 = (S.2.1.length : Nat) by omega, iat_last rfl]
  · rw [if_pos (by omega), if_pos (by omega), show ((S.2.1.length + 1 : Nat) : Int) - 1 - (i : Int) = (S.2.1.length - i : Nat) by omega, iat_app (by omega)]
    congr 1
    omega
  · by_cases c2 : i = S.2.1.length
    · rw [iat_out (by omega), iat_out (by omega)]
    · rw [show ((S.2.1.length + 1 : Nat) : Int) - 2 - (i : Int) = (S.2.1.length - 1 - i : Nat) by omega, iat_app (by omega)]
      congr 1
      omega
theorem X8_flushes_is {h : HP} {m : Nat} {v : Nat → Int32} {S : SG} {D : Nat → Bool} (e : CLR h m v S (flK S) D) {M : Int} (H : SOK S M) (hF0 : flF S = 0) : WP (f_X8_flushes h m) (fun r => r.1 = zI (flK S).length ∧ REF r.2 m (flS S) ∧ MOB r.2 m v ∧ OFF (m + 1) 1 h r.2) := by
  have hR := CLR_R e
  have hb := REF_b hR
  have hE := H.2.2.2.2.2.2
  have hp := plc hE (i := -1) (by omega)
  have hm1 := eOf_m1 S
  have hlen := clP_len H (by omega) (by omega) (nw := -1) (ol := -1) (by omega)
  have hl := rep_len (S := S) (nw := -1) (ol := -1) (by omega)
  have hkl : (flK S).length = (clP S (-1) (-1)).length := rfl
  obtain ⟨k0, ⟨f, k1, kq⟩, k2, ⟨g, k3, k4⟩, k5, -⟩ := e
  have h5 : S.2.1.length ≠ 5 ∧ sOf S (-1) + (flK S).length ≤ 48 := by
    unfold flF at hF0
    split at hF0
    · omega
    · split at hF0 <;> omega
  unfold f_X8_flushes b_X8_flushes_0
  simp only [zm1, show (6 : Int32) = zI 6 by decide, zl0]
  refine wb hb.2 ?_
  refine wb (X8_begin_is hR (r := -1) (by omega)) ?_
  refine wb (X8_all_is hR) ?_
  have hr := X8_replace_is hR k0 k1 kq k3 k4 k2 (p := (sOf S (-1)).toNat) (q := S.1.length) (by omega) (Nat.le_refl _) (by omega)
  rw [show (((sOf S (-1)).toNat : Nat) : Int) = sOf S (-1) by omega] at hr
  refine wpb hr ?_
  rintro h1 ⟨⟨F, f1, f2, f3, f4⟩, o1⟩
  have j0 : MOB h1 m v := (o1 _ (by omega)).trans k0
  have hrows : ROWS F (rep S (-1) (-1)) := by
    unfold rep
    rw [hm1, Int.toNat_natCast]
    exact f4
  refine wb (gR_e j0 rfl) ?_
  refine wb (wI_e f1 (z := 6) (by omega)) ?_
  have j0' := MOB_ne (e := .inl (0, 204, .inl (upd F (6 : Int).toNat (zI 0)))) j0 (show m ≠ m + 1 by omega)
  have j1' := ARR_eq h1 (m + 1) 204 (upd F (6 : Int).toNat (zI 0))
  have o2 := OFF_up (c := m + 1) (e := .inl (0, 204, .inl (upd F (6 : Int).toNat (zI 0)))) o1 (by omega)
  generalize hup h1 (m + 1) _ = h2 at *
  refine wb (gI_e j0' rfl) ?_
  rw [k2]
  obtain ⟨q1, q2⟩ := kq
  have kq : RW f S := ⟨q1, q2⟩
  obtain ⟨u0, u1, u2, u3, u4, u5, u6, u7⟩ := q2
  have hroww : ∀ G : Nat → Int32, (∀ x : Nat, 12 ≤ x → G x = F x) → ROWS G (rep S (-1) (-1)) := fun G hG j hj => by
    have := hrows j hj
    rw [hG _ (by omega), hG _ (by omega), hG _ (by omega), hG _ (by omega)]
    exact this
  by_cases c : (flK S).length = 0
  · refine wt ((zI_le (by omega)).mpr (by omega)) ?_
    refine wb (gI_e j0' rfl) ?_
    refine wr ⟨k2, ⟨v, _, j0', j1', ?_⟩, j0', o2⟩
    have hT : flS S = (rep S (-1) (-1), S.2.1, S.2.2.1, S.2.2.2.1, S.2.2.2.2 + (eOf S (-1) - sOf S (-1) - (flK S).length)) := by
      unfold flS
      rw [if_neg (by omega)]
    rw [hT]
    refine RW_mk kq ⟨q1.1, by dsimp only; omega⟩ rfl rfl ?_ (fun i hi => ?_) ?_ (fun x h7 h8 => ?_) ?_ (hroww _ (fun x hx => upd_ne (by omega)))
    · rw [upd_ne (by omega), f2 0 (by omega)]
      exact u0
    · dsimp only at hi ⊢
      rw [upd_ne (by omega), f2 (1 + i) (by omega), u1 i hi]
      unfold eOf sOf
      dsimp only
      rw [if_pos (by omega), if_pos (by omega)]
    · rw [upd_eq (show (6 : Nat) = (6 : Int).toNat from rfl), eOf_m1, show sOf ((rep S (-1) (-1), S.2.1, S.2.2.1, S.2.2.2.1, S.2.2.2.2 + (eOf S (-1) - sOf S (-1) - (flK S).length)) : SG) (-1) = sOf S (-1) from rfl]
      dsimp only
      exact congrArg zI (by omega)
    · rw [upd_ne (by omega), f2 x (by omega)]
    · rw [upd_ne (by omega), f3]
      dsimp only
      exact congrArg zI (by omega)
  · refine wf (fun d => c (by have := (zI_le (by omega)).mp d; omega)) ?_
    refine wb (gR_e j0' rfl) ?_
    refine wb (aI_v j1' (z := 0) (x := zI S.2.1.length) (by omega) (by rw [upd_ne (by omega)]; exact (f2 0 (by omega)).trans u0)) ?_
    have h9 := flushes_35 (v := v) (r := S.2.1.length) (by omega) k2 (F0 := upd F (6 : Int).toNat (zI 0)) (h0 := h) (by rw [upd_ne (by omega)]; exact (f2 0 (by omega)).trans u0) S.2.1.length FU h2 _ (by unfold FU; omega) (Nat.le_refl _) j0' j1' o2 (fun x => by rw [if_neg (by omega)])
    refine wm h9 ?_
    rintro ⟨x, h3⟩ ⟨r1, ⟨G, g1, g2⟩, r3⟩
    have hk0 : MOB h3 m v := (r3 _ (by omega)).trans k0
    refine ⟨r1, ⟨v, G, hk0, g1, ?_⟩, hk0, r3⟩
    have hT : flS S = (rep S (-1) (-1), S.2.1 ++ [sOf S (-1) + (flK S).length], S.2.2.1, S.2.2.2.1, S.2.2.2.2 + (eOf S (-1) - sOf S (-1) - (flK S).length)) := by
      unfold flS
      rw [if_pos (by omega)]
    have hla : (S.2.1 ++ [sOf S (-1) + ((flK S).length : Int)]).length = S.2.1.length + 1 := by
      rw [List.length_append, List.length_singleton]
    rw [hT]
    refine RW_mk kq ⟨by dsimp only; omega, by dsimp only; omega⟩ rfl rfl ?_ (fun i hi => ?_) ?_ (fun x h7 h8 => ?_) ?_ (hroww _ (fun x hx => ?_))
    · dsimp only
      rw [g2, if_pos rfl, hla]
      rfl
    · dsimp only at hi ⊢
      rw [g2, if_neg (by omega)]
      rw [hla] at hi
      have hz := app_sz (T := ((rep S (-1) (-1), S.2.1 ++ [sOf S (-1) + ((flK S).length : Int)], S.2.2.1, S.2.2.2.1, S.2.2.2.2 + (eOf S (-1) - sOf S (-1) - (flK S).length)) : SG)) (S := S) rfl
      by_cases c1 : i = 0
      · rw [if_pos (by omega), c1]
        have := hz.1
        exact congrArg zI (by rw [show ((0 : Nat) : Int) = 0 from rfl]; omega)
      · have := hz.2 i (by omega) (by omega)
        rw [if_neg (by omega), if_pos (by omega), upd_ne (by omega), f2 _ (by omega), show 1 + i - 1 = 1 + (i - 1) by omega, u1 (i - 1) (by omega), this.1, this.2]
    · rw [g2, if_neg (by omega), if_neg (by omega), eOf_m1]
      have hs := (app_sz (T := ((rep S (-1) (-1), S.2.1 ++ [sOf S (-1) + ((flK S).length : Int)], S.2.2.1, S.2.2.2.1, S.2.2.2.2 + (eOf S (-1) - sOf S (-1) - (flK S).length)) : SG)) (S := S) rfl).1.2.2
      rw [hs]
      dsimp only
      by_cases c2 : 6 ≤ S.2.1.length + 1
      · omega
      · rw [if_neg c2, upd_eq (show (6 : Nat) = (6 : Int).toNat from rfl)]
        exact congrArg zI (by omega)
    · rw [g2, if_neg (by omega), if_neg (by omega), if_neg (by omega), upd_ne (by omega), f2 x (by omega)]
    · rw [g2, if_neg (by omega), if_neg (by omega), if_neg (by omega), upd_ne (by omega), f3]
      dsimp only
      exact congrArg zI (by omega)
    · rw [g2, if_neg (by omega), if_neg (by omega), if_neg (by omega), upd_ne (by omega)]
