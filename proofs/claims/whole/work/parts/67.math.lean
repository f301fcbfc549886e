/-! the class flushes and merges -/
def CLN (h : HP) (c : Nat) : Prop := ∃ ws L, CLNX h c ws L
theorem CLN_off {h h' : HP} {c a' n' : Nat} (e : CLN h c) (k : OFF a' n' h h') (d : c + 158 ≤ a' ∨ a' + n' ≤ c) : CLN h' c := by
  obtain ⟨ws, L, e⟩ := e
  exact ⟨ws, L, CLNX_off e k d⟩
/-- the same world but for the cleaner and a store -/
def FR (c a : Nat) (h h' : HP) : Prop := ∀ b, (b < c ∨ c + 158 ≤ b) → (b < a ∨ a + 8 ≤ b) → h' b = h b
theorem FR_refl (c a : Nat) (h : HP) : FR c a h h := fun _ _ _ => rfl
theorem FR_trans {c a : Nat} {h h' h'' : HP} (e : FR c a h h') (e' : FR c a h' h'') : FR c a h h'' := fun b h1 h2 => (e' b h1 h2).trans (e b h1 h2)
theorem FR_c {c a : Nat} {h h' : HP} {a' n' : Nat} (e : OFF a' n' h h') (d : (c ≤ a' ∧ a' + n' ≤ c + 158) ∨ (a ≤ a' ∧ a' + n' ≤ a + 8)) : FR c a h h' := fun b h1 h2 => e b (by omega)
/-- what a store of the class needs to be cleaned -/
def SMC (S : SG) (M : Int) : Prop := SOK S M ∧ S.1.length ≤ 148 ∧ S.2.2.1.length ≤ 2
theorem clean_at {h : HP} {c a cap cl : Nat} {S : SG} (e : CLN h c) (s : STO h cl a cap S) {M : Int} (H : SOK S M) (hl : S.1.length ≤ 148) (hd : a + 8 ≤ c ∨ c + 158 ≤ a) {nw ol : Int} (hnw : -1000000 < nw ∧ nw < 1000000) (hol : -1000000 < ol ∧ ol < 1000000) (hp : 0 ≤ sOf S ol ∧ sOf S ol ≤ eOf S nw ∧ eOf S nw ≤ S.1.length) (hb : (clP S nw ol).length ≤ 348) : WP (f_X0_clean h c a (zI nw) (zI ol)) (fun r => r.1 = zI (clP S nw ol).length ∧ (∃ L', CLNX r.2 c (clP S nw ol) L') ∧ OFF c 158 h r.2) := by
  obtain ⟨ws, L, e⟩ := e
  exact X0_clean_is e s H.1 H.2.1 (SOK_Y H) H.2.2.2.2.2.1.2.2 hd hnw hol (p := (sOf S ol).toNat) (q := (eOf S nw).toNat) (by omega) (by omega) (by omega) (by omega) (by omega) rfl hb
theorem X3_canFlush_is {h : HP} {c a cap : Nat} {S : SG} (e : CLN h c) (s : STO h c a cap S) {M : Int} (H : SOK S M) (hl : S.1.length ≤ 48 ∧ S.2.1.length ≤ 5) (hd : a + 8 ≤ c ∨ c + 158 ≤ a) : WP (f_X3_canFlush h a) (fun r => r.1 = tB (flF S = 0) ∧ CLN r.2 c ∧ OFF c 158 h r.2) := by
  have hE := H.2.2.2.2.2.2
  have hp := plc hE (i := -1) (by omega)
  have hm1 := eOf_m1 S
  have hy : S.2.2.1.length ≤ 2 := by
    obtain ⟨fe, fy, e0, e1, e2, e3, r1, r2, c1, c2⟩ := s
    exact r2
  have hlen := clP_len H hl.1 hy (nw := -1) (ol := -1) (by omega)
  have hr4 : gI 3 4 h a = some (zI S.2.1.length) := by
    obtain ⟨fe, fy, e0, -⟩ := s
    exact gI_e e0 rfl
  unfold f_X3_canFlush b_X3_canFlush_0
  simp only [zm1, show (5 : Int32) = zI 5 by decide, show (48 : Int32) = zI 48 by decide]
  refine wb (STO_w s).2.2.1 ?_
  refine wb (X3_sizeOf_is s (i := -1) (by omega)) ?_
  by_cases c1 : eOf S (-1) - sOf S (-1) = 0
  · rw [zl0]
    refine wt ((zI_inj (by omega)).mpr c1) ?_
    refine wr ⟨?_, e, OFF_refl _ _ _⟩
    rw [tB_0]
    · rfl
    · unfold flF
      rw [if_pos (Or.inl c1)]
      decide
  · rw [zl0]
    refine wf (fun d => c1 ((zI_inj (by omega)).mp d)) ?_
    refine wb hr4 ?_
    by_cases c2 : S.2.1.length = 5
    · refine wf (fun d => absurd ((zI_lt (by omega)).mp d) (by omega)) ?_
      refine wr ⟨?_, e, OFF_refl _ _ _⟩
      rw [tB_0]
      · rfl
      · unfold flF
        rw [if_pos (Or.inr c2)]
        decide
    · refine wt ((zI_lt (by omega)).mpr (by omega)) ?_
      refine wb (X3_startOf_is s (i := -1) (by omega)) ?_
      refine wb (STO_w s).2.2.2 ?_
      refine wpb (clean_at e s H (by omega) hd (nw := -1) (ol := -1) (by omega) (by omega) (by omega) hlen) ?_
      rintro ⟨x, h1⟩ ⟨q1, ⟨L, q2⟩, q3⟩
      dsimp only at q1 q2 q3 ⊢
      subst q1
      rw [zI_add]
      have hF : flF S = if sOf S (-1) + (flK S).length ≤ 48 then 0 else 1 := by
        unfold flF
        rw [if_neg (by omega)]
      have hK : (flK S).length = (clP S (-1) (-1)).length := rfl
      by_cases c3 : sOf S (-1) + (flK S).length ≤ 48
      · rw [if_pos c3] at hF
        refine wf (fun d => absurd ((zI_lt (by omega)).mp d) (by omega)) ?_
        exact wr ⟨(tB_1 hF).symm, ⟨_, L, q2⟩, q3⟩
      · rw [if_neg c3] at hF
        refine wt ((zI_lt (by omega)).mpr (by omega)) ?_
        exact wr ⟨(tB_0 (by omega)).symm, ⟨_, L, q2⟩, q3⟩
theorem X3_canMerge_is {h : HP} {c a cap : Nat} {S : SG} (e : CLN h c) (s : STO h c a cap S) {M : Int} (H : SOK S M) (hl : S.1.length ≤ 48 ∧ S.2.1.length ≤ 5) (hd : a + 8 ≤ c ∨ c + 158 ≤ a) {i : Int} (hi : -2147483648 ≤ i ∧ i < 2147483648) : WP (f_X3_canMerge h a (zI i)) (fun r => r.1 = tB (mgF S i = 0) ∧ CLN r.2 c ∧ OFF c 158 h r.2) := by
  have hE := H.2.2.2.2.2.2
  have hy : S.2.2.1.length ≤ 2 := by
    obtain ⟨fe, fy, e0, e1, e2, e3, r1, r2, c1, c2⟩ := s
    exact r2
  unfold f_X3_canMerge b_X3_canMerge_0
  simp only [zl0, zl1, zI_add, show (48 : Int32) = zI 48 by decide]
  refine wb (STO_w s).2.2.1 ?_
  refine wb (X3_isRun_is s hi) ?_
  by_cases c1 : 0 ≤ i ∧ i < S.2.1.length
  · rw [tB_1 c1]
    refine wf (by decide) ?_
    refine wb (X3_isRun_is s (i := i + 1) (by omega)) ?_
    by_cases c2 : i = S.2.1.length - 1
    · rw [tB_0 (by omega)]
      refine wt rfl ?_
      refine wr ⟨?_, e, OFF_refl _ _ _⟩
      rw [tB_0]
      · rfl
      · unfold mgF
        rw [if_neg (by omega), if_pos c2]
        decide
    · rw [tB_1 (by omega)]
      refine wf (by decide) ?_
      obtain ⟨p1, p2, p3, p4, p5, p6, p7⟩ := mg_pre hE (i := i) (by omega)
      have h2 := plc2 S (i := i) (by omega)
      have hlen := clP_len H hl.1 hy (nw := i) (ol := i + 1) (by omega)
      refine wb (STO_w s).1 ?_
      refine wb (X6_size_is (STO_w s).2.1) ?_
      refine wb (X3_sizeOf_is s (i := i) (by omega)) ?_
      refine wb (X3_sizeOf_is s (i := i + 1) (by omega)) ?_
      refine wb (STO_w s).2.2.2 ?_
      refine wpb (clean_at e s H (by omega) hd (nw := i) (ol := i + 1) (by omega) (by omega) (by omega) hlen) ?_
      rintro ⟨x, h1⟩ ⟨q1, ⟨L, q2⟩, q3⟩
      dsimp only at q1 q2 q3 ⊢
      subst q1
      rw [zI_sub, zI_sub, zI_add]
      have hF : mgF S i = if S.1.length + (mgK S i).length - (eOf S i - sOf S (i + 1)) ≤ 48 then 0 else 2 := by
        unfold mgF
        rw [if_neg (by omega), if_neg c2]
      have hK : (mgK S i).length = (clP S i (i + 1)).length := rfl
      by_cases c3 : S.1.length + (mgK S i).length - (eOf S i - sOf S (i + 1)) ≤ 48
      · rw [if_pos c3] at hF
        refine wf (fun d => absurd ((zI_lt (by omega)).mp d) (by omega)) ?_
        exact wr ⟨(tB_1 hF).symm, ⟨_, L, q2⟩, q3⟩
      · rw [if_neg c3] at hF
        refine wt ((zI_lt (by omega)).mpr (by omega)) ?_
        exact wr ⟨(tB_0 (by omega)).symm, ⟨_, L, q2⟩, q3⟩
  · rw [tB_0 c1]
    refine wt rfl ?_
    refine wr ⟨?_, e, OFF_refl _ _ _⟩
    rw [tB_0]
    · rfl
    · unfold mgF
      rw [if_pos c1]
      decide
theorem X3_savedBy_is {h : HP} {c a cap : Nat} {S : SG} (e : CLN h c) (s : STO h c a cap S) {M : Int} (H : SOK S M) (hl : S.1.length ≤ 48 ∧ S.2.1.length ≤ 5) (hd : a + 8 ≤ c ∨ c + 158 ≤ a) {i : Int} (hi : 0 ≤ i ∧ i + 1 < S.2.1.length) : WP (f_X3_savedBy h a (zI i)) (fun r => r.1 = zI (mgV S i) ∧ CLN r.2 c ∧ OFF c 158 h r.2) := by
  have hE := H.2.2.2.2.2.2
  have hy : S.2.2.1.length ≤ 2 := by
    obtain ⟨fe, fy, e0, e1, e2, e3, r1, r2, c1, c2⟩ := s
    exact r2
  obtain ⟨p1, p2, p3, p4, p5, p6, p7⟩ := mg_pre hE (i := i) (by omega)
  have h2 := plc2 S (i := i) (by omega)
  have hlen := clP_len H hl.1 hy (nw := i) (ol := i + 1) (by omega)
  unfold f_X3_savedBy b_X3_savedBy_0
  simp only [zl1, zI_add]
  refine wb (STO_w s).2.2.1 ?_
  refine wb (X3_sizeOf_is s (i := i) (by omega)) ?_
  refine wb (X3_sizeOf_is s (i := i + 1) (by omega)) ?_
  refine wb (STO_w s).2.2.2 ?_
  refine wpb (clean_at e s H (by omega) hd (nw := i) (ol := i + 1) (by omega) (by omega) (by omega) hlen) ?_
  rintro ⟨x, h1⟩ ⟨q1, ⟨L, q2⟩, q3⟩
  dsimp only at q1 q2 q3 ⊢
  subst q1
  rw [zI_add, zI_sub]
  refine wr ⟨congrArg zI ?_, ⟨_, L, q2⟩, q3⟩
  unfold mgV mgK
  omega
/-- a store with another count of fewer ones -/
theorem STO_few {h : HP} {cl a cap : Nat} {S : SG} (s : STO h cl a cap S) (n : Int) : WP (pI 3 7 h a (zI n)) (fun h' => STO h' cl a cap (S.1, S.2.1, S.2.2.1, S.2.2.2.1, n) ∧ OFF a 1 h h') := by
  obtain ⟨fe, fy, e0, e1, e2, e3, r1, r2, c1, c2⟩ := s
  refine weq (pI_e2 (fs2 := [.ref cl, .ref (a + 3), .ref (a + 1), .ref (a + 2), .int (zI S.2.1.length), .int (zI S.2.2.1.length), .int (zI S.2.2.2.1), .int (zI n)]) e0 (show 7 < 8 by omega) rfl) ?_
  refine ⟨⟨fe, fy, hup_same _ _ _, ARR_ne e1 (by omega), ARR_ne e2 (by omega), WRS_off e3 (OFF_up (OFF_refl a 1 h) (by omega)) (by omega), r1, r2, c1, c2⟩, OFF_up (OFF_refl _ _ _) (by omega)⟩
theorem STO_gI {h : HP} {cl a cap : Nat} {S : SG} (s : STO h cl a cap S) : gI 3 7 h a = some (zI S.2.2.2.2) ∧ gI 3 4 h a = some (zI S.2.1.length) ∧ gR 3 2 h a = some (a + 1) ∧ aN h (a + 1) = some (zI 6) := by
  obtain ⟨fe, fy, e0, e1, e2, e3, r1, r2, c1, c2⟩ := s
  exact ⟨gI_e e0 rfl, gI_e e0 rfl, gR_e e0 rfl, aN_e e1⟩
theorem CLNX_w {h : HP} {c : Nat} {ws : List WR} {L : Nat → Nat → Bool} (e : CLNX h c ws L) : WRS h (c + 1) 348 ws := by
  obtain ⟨G, e0, e1, e2, e3, e4⟩ := e
  exact e3
theorem STO_rep {h : HP} {cl a cap : Nat} {S : SG} (s : STO h cl a cap S) {c : Nat} {bs : List WR} (e : WRS h (c + 1) 348 bs) (hd : a + 8 ≤ c ∨ c + 158 ≤ a) {p q : Nat} (h1 : p ≤ q) (h2 : q ≤ S.1.length) (h3 : p + bs.length + (S.1.length - q) ≤ cap) : WP (f_X6_replace h (a + 3) (zI p) (zI q) (c + 1)) (fun h' => STO h' cl a cap (S.1.take p ++ bs ++ S.1.drop q, S.2.1, S.2.2.1, S.2.2.2.1, S.2.2.2.2) ∧ OFF (a + 3) 5 h h') := by
  obtain ⟨fe, fy, e0, e1, e2, e3, r1, r2, c1, c2⟩ := s
  refine wm (X6_replace_is e3 e (by omega) h1 h2 h3) ?_
  rintro h' ⟨q1, q2⟩
  exact ⟨⟨fe, fy, (q2 _ (by omega)).trans e0, (q2 _ (by omega)).trans e1, (q2 _ (by omega)).trans e2, q1, r1, r2, c1, c2⟩, q2⟩
theorem X3_flushMemory_is {h : HP} {c a cap : Nat} {S : SG} (e : CLN h c) (s : STO h c a cap S) {M : Int} (H : SOK S M) (hl : S.1.length ≤ 148 ∧ S.2.1.length ≤ 5) (hd : a + 8 ≤ c ∨ c + 158 ≤ a) (hb : (flK S).length ≤ 348) (hc : sOf S (-1) + (flK S).length ≤ cap) : WP (f_X3_flushMemory h a) (fun r => r.1 = zI (flK S).length ∧ STO r.2 c a cap (flS S) ∧ CLN r.2 c ∧ FR c a h r.2) := by
  have hE := H.2.2.2.2.2.2
  have hp := plc hE (i := -1) (by omega)
  have hm1 := eOf_m1 S
  have hK : clP S (-1) (-1) = flK S := rfl
  unfold f_X3_flushMemory b_X3_flushMemory_0
  simp only [zm1]
  refine wb (STO_w s).2.2.1 ?_
  refine wb (STO_w s).2.2.2 ?_
  refine wpb (clean_at e s H hl.1 hd (nw := -1) (ol := -1) (by omega) (by omega) (by omega) hb) ?_
  rintro ⟨x, h1⟩ ⟨q1, ⟨L, q2⟩, q3⟩
  dsimp only at q1 q2 q3 ⊢
  subst q1
  rw [hK] at q2 ⊢
  have s1 := STO_off s q3 (by omega)
  refine wb (STO_gI s1).1 ?_
  refine wb (X3_sizeOf_is s1 (i := -1) (by omega)) ?_
  rw [zI_sub, zI_add]
  refine wpb (STO_few s1 _) ?_
  rintro h2 ⟨s2, o2⟩
  have k2 := CLNX_off q2 o2 (by omega)
  refine wb (STO_w s2).1 ?_
  refine wb (X3_startOf_is s2 (i := -1) (by omega)) ?_
  refine wb (X3_endOf_is s2 (i := -1) (by omega)) ?_
  refine wb (STO_w s2).2.2.2 ?_
  refine wb (CLNX_0 k2).1 ?_
  have e1 : sOf ((S.1, S.2.1, S.2.2.1, S.2.2.2.1, S.2.2.2.2 + (eOf S (-1) - sOf S (-1) - ((flK S).length : Int))) : SG) (-1) = (((sOf S (-1)).toNat : Nat) : Int) := by
    show sOf S (-1) = _
    omega
  have e2 : eOf ((S.1, S.2.1, S.2.2.1, S.2.2.2.1, S.2.2.2.2 + (eOf S (-1) - sOf S (-1) - ((flK S).length : Int))) : SG) (-1) = (((eOf S (-1)).toNat : Nat) : Int) := by
    show eOf S (-1) = _
    omega
  rw [e1, e2]
  refine wpb (STO_rep s2 (CLNX_w k2) hd (by omega) (by dsimp only; omega) (by dsimp only; omega)) ?_
  rintro h3 ⟨s3, o3⟩
  have k3 := CLNX_off k2 o3 (by omega)
  have fr3 : FR c a h h3 := FR_trans (FR_c q3 (by omega)) (FR_trans (FR_c o2 (by omega)) (FR_c o3 (by omega)))
  dsimp only at s3
  by_cases c1 : (flK S).length = 0
  · rw [zl0]
    refine wt ((zI_le (by omega)).mpr (by omega)) ?_
    have hT : flS S = (rep S (-1) (-1), S.2.1, S.2.2.1, S.2.2.2.1, S.2.2.2.2 + (eOf S (-1) - sOf S (-1) - (flK S).length)) := by
      unfold flS
      rw [if_neg (by omega)]
    rw [hT]
    exact wr ⟨rfl, s3, ⟨_, L, k3⟩, fr3⟩
  · rw [zl0, zl1]
    refine wf (fun d => c1 (by have := (zI_le (by omega)).mp d; omega)) ?_
    refine wb (STO_gI s3).2.1 ?_
    refine wb (STO_gI s3).2.2.1 ?_
    refine wb (STO_gI s3).2.2.2 ?_
    dsimp only
    refine wf (fun d => absurd ((zI_le (by omega)).mp d) (by omega)) ?_
    refine wb (STO_gI s3).2.2.1 ?_
    refine wb (STO_gI s3).2.1 ?_
    refine wb (STO_w s3).1 ?_
    refine wb (X6_size_is (STO_w s3).2.1) ?_
    have hrl := rep_len (S := S) (nw := -1) (ol := -1) (by omega)
    rw [hK] at hrl
    have hT : flS S = (rep S (-1) (-1), S.2.1 ++ [sOf S (-1) + (flK S).length], S.2.2.1, S.2.2.2.1, S.2.2.2.2 + (eOf S (-1) - sOf S (-1) - (flK S).length)) := by
      unfold flS
      rw [if_pos (by omega)]
    rw [hT]
    have hsz : ((S.1.take (sOf S (-1)).toNat ++ flK S ++ S.1.drop (eOf S (-1)).toNat).length : Int) = sOf S (-1) + (flK S).length := by
      have : rep S (-1) (-1) = S.1.take (sOf S (-1)).toNat ++ flK S ++ S.1.drop (eOf S (-1)).toNat := rfl
      rw [← this, hrl]
      omega
    obtain ⟨fe, fy, e0, e1', e2', e3, r1, r2, cc1, cc2⟩ := s3
    dsimp only at e0 e1' e2' e3 r1 r2 cc1 cc2 ⊢
    rw [hsz]
    refine wb (wI_e e1' (by omega)) ?_
    have j0 := (hup_ne h3 (e := .inl (0, 6, .inl (upd fe (S.2.1.length : Int).toNat (zI (sOf S (-1) + (flK S).length))))) (show a ≠ a + 1 by omega)).trans e0
    have j2 := ARR_ne (e := .inl (0, 6, .inl (upd fe (S.2.1.length : Int).toNat (zI (sOf S (-1) + (flK S).length))))) e2' (show a + 2 ≠ a + 1 by omega)
    have j1 := ARR_eq h3 (a + 1) 6 (upd fe (S.2.1.length : Int).toNat (zI (sOf S (-1) + (flK S).length)))
    have o4 := OFF_up (OFF_refl a 8 h3) (c := a + 1) (e := .inl (0, 6, .inl (upd fe (S.2.1.length : Int).toNat (zI (sOf S (-1) + (flK S).length))))) (by omega)
    have j3 := WRS_off e3 (OFF_up (OFF_refl (a + 1) 1 h3) (c := a + 1) (e := .inl (0, 6, .inl (upd fe (S.2.1.length : Int).toNat (zI (sOf S (-1) + (flK S).length))))) (by omega)) (by omega)
    generalize hup h3 (a + 1) _ = h4 at *
    refine wb (gI_e j0 rfl) ?_
    rw [zI_add]
    refine wb (pI_e2 (fs2 := [.ref c, .ref (a + 3), .ref (a + 1), .ref (a + 2), .int (zI ((S.2.1.length : Int) + 1)), .int (zI S.2.2.1.length), .int (zI S.2.2.2.1), .int (zI (S.2.2.2.2 + (eOf S (-1) - sOf S (-1) - ((flK S).length : Int))))]) j0 (show 4 < 8 by omega) rfl) ?_
    have o5 := OFF_up (c := a) (e := .inr (3, [.ref c, .ref (a + 3), .ref (a + 1), .ref (a + 2), .int (zI ((S.2.1.length : Int) + 1)), .int (zI S.2.2.1.length), .int (zI S.2.2.2.1), .int (zI (S.2.2.2.2 + (eOf S (-1) - sOf S (-1) - ((flK S).length : Int))))])) o4 (by omega)
    refine wr ⟨rfl, ⟨_, fy, (hup_same _ _ _).trans ?_, ARR_ne j1 (by omega), ARR_ne j2 (by omega), WRS_off j3 (OFF_up (OFF_refl a 1 h4) (by omega)) (by omega), ?_, r2, ?_, cc2⟩, ⟨_, L, CLNX_off k3 o5 (by omega)⟩, FR_trans fr3 (FR_c o5 (by omega))⟩
    · dsimp only
      rw [List.length_append, List.length_singleton]
      rfl
    · dsimp only
      rw [List.length_append, List.length_singleton]
      omega
    · dsimp only
      rw [Int.toNat_natCast]
      exact CLU_app cc1 _
theorem mR_100 {a cap c : Nat} {es : List Int} {fe : Nat → Int32} (hfe : CLU fe es) (hes : es.length ≤ 6) {o g : Nat} (hg : 1 ≤ g ∧ g ≤ 2) (hog : o + g ≤ es.length) {sv : Int} {x : Int32} {ws : List WR} {Y : List Int} {lat few : Int} {h0 : HP} (hY : Y.length ≤ 2) {fy : Nat → Int32} (hfy : CLU fy Y) : ∀ (d n : Nat) (h : HP) (F : Nat → Int32) (k : Nat), d < n → k + g + d = es.length → o ≤ k → h a = some (.inr (3, [.ref c, .ref (a + 3), .ref (a + 1), .ref (a + 2), .int (zI es.length), .int (zI Y.length), .int (zI lat), .int (zI few)])) → ARR h (a + 1) 6 F → ARR h (a + 2) 2 fy → WRS h (a + 3) cap ws → OFF a 8 h0 h → (∀ y : Nat, F y = if o ≤ y ∧ y < k then zI (iat es ((y + g : Nat) : Int) - sv) else fe y) → WP (b_X3_mergeRuns_100 a n h x (zI sv) (zI g) (zI k)) (fun r => r.1 = x ∧ STO r.2 c a cap (ws, mgE es o g sv, Y, lat, few) ∧ OFF a 8 h0 r.2) := by
  intro d
  induction d with
  | zero =>
    intro n h F k hn hk hok e0 e1 e2 e3 of hF
    obtain ⟨n, rfl⟩ : ∃ k, n = k + 1 := ⟨n - 1, by omega⟩
    unfold b_X3_mergeRuns_100 c_X3_mergeRuns_100
    refine wb (gI_e e0 rfl) ?_
    rw [zI_add]
    refine wt ((zI_le (by omega)).mpr (by omega)) ?_
    refine wb (gI_e e0 rfl) ?_
    rw [zI_sub]
    refine wb (pI_e2 (fs2 := [.ref c, .ref (a + 3), .ref (a + 1), .ref (a + 2), .int (zI ((es.length : Int) - g)), .int (zI Y.length), .int (zI lat), .int (zI few)]) e0 (show 4 < 8 by omega) rfl) ?_
    have hel : (mgE es o g sv).length = es.length - g := mgE_len hog
    refine wr ⟨rfl, ⟨F, fy, (hup_same _ _ _).trans ?_, ARR_ne e1 (by omega), ARR_ne e2 (by omega), WRS_off e3 (OFF_up (OFF_refl a 1 h) (by omega)) (by omega), ?_, hY, fun y hy => ?_, hfy⟩, OFF_up of (by omega)⟩
    · dsimp only
      rw [hel, show ((es.length - g : Nat) : Int) = (es.length : Int) - g by omega]
    · dsimp only
      omega
    · dsimp only at hy ⊢
      rw [hel] at hy
      rw [mgE_at hog (by omega), hF y]
      by_cases c1 : y < o
      · rw [if_neg (by omega), if_pos (by omega)]
        exact hfe y (by omega)
      · rw [if_pos (by omega), if_neg (by omega)]
        rfl
  | succ d ih =>
    intro n h F k hn hk hok e0 e1 e2 e3 of hF
    obtain ⟨n, rfl⟩ : ∃ k, n = k + 1 := ⟨n - 1, by omega⟩
    unfold b_X3_mergeRuns_100 c_X3_mergeRuns_100
    refine wb (gI_e e0 rfl) ?_
    rw [zI_add]
    refine wf (fun d => absurd ((zI_le (by omega)).mp d) (by omega)) ?_
    refine wb (gR_e e0 rfl) ?_
    refine wb (gR_e e0 rfl) ?_
    have hv : F ((k : Int) + g).toNat = zI (iat es ((k + g : Nat) : Int)) := by
      rw [show ((k : Int) + g).toNat = k + g by omega, hF, if_neg (by omega)]
      exact hfe _ (by omega)
    refine wb (aI_v e1 (z := (k : Int) + g) (by omega) hv) ?_
    rw [zI_sub]
    refine wb (wI_e e1 (by omega)) ?_
    have h9 := ih n _ (upd F (k : Int).toNat (zI (iat es ((k + g : Nat) : Int) - sv))) (k + 1) (by omega) (by omega) (by omega) ((hup_ne h _ (show a ≠ a + 1 by omega)).trans e0) (ARR_eq h (a + 1) 6 _) (ARR_ne e2 (show a + 2 ≠ a + 1 by omega)) (WRS_off e3 (OFF_up (OFF_refl (a + 1) 1 h) (by omega)) (by omega)) (OFF_up of (by omega)) (fun y => by
      by_cases c1 : y = k
      · rw [upd_eq (by omega), if_pos (by omega), c1]
      · rw [upd_ne (by omega), hF y]
        by_cases c2 : o ≤ y ∧ y < k
        · rw [if_pos c2, if_pos (by omega)]
        · rw [if_neg c2, if_neg (by omega)])
    rw [cast1] at h9
    rw [zl1, zI_add]
    exact h9
theorem X3_mergeRuns_is {h : HP} {c a cap : Nat} {S : SG} (e : CLN h c) (s : STO h c a cap S) {M : Int} (H : SOK S M) (hl : S.1.length ≤ 148 ∧ S.2.1.length ≤ 6) (hd : a + 8 ≤ c ∨ c + 158 ≤ a) {i : Int} (hi : 0 ≤ i ∧ i + 1 < S.2.1.length) (hb : (mgK S i).length ≤ 348) (hc : S.1.length + (mgK S i).length - (eOf S i - sOf S (i + 1)) ≤ cap) : WP (f_X3_mergeRuns h a (zI i)) (fun r => r.1 = zI (mgK S i).length ∧ STO r.2 c a cap (mgS S i) ∧ CLN r.2 c ∧ FR c a h r.2) := by
  have hE := H.2.2.2.2.2.2
  obtain ⟨p1, p2, p3, p4, p5, p6, p7⟩ := mg_pre hE (i := i) (by omega)
  have hpl := plc2 S (i := i) (by omega)
  have hK : clP S i (i + 1) = mgK S i := rfl
  have hvn : mgV S i = eOf S i - sOf S i + (eOf S (i + 1) - sOf S (i + 1)) - (mgK S i).length := by
    unfold mgV
    omega
  unfold f_X3_mergeRuns b_X3_mergeRuns_0
  simp only [show (2 : Int32) = zI ((2 : Nat) : Int) by decide, show (1 : Int32) = zI ((1 : Nat) : Int) by decide, zl0, zI_add]
  refine wb (STO_w s).2.2.1 ?_
  refine wb (STO_gI s).2.1 ?_
  rw [zI_sub, zI_sub]
  refine wf (fun d => absurd ((zI_lt (by omega)).mp d) (by omega)) ?_
  refine wt ((zI_le (by omega)).mpr (by omega)) ?_
  refine wb (STO_w s).2.2.2 ?_
  rw [show i + ((1 : Nat) : Int) = i + 1 by omega]
  refine wpb (clean_at e s H hl.1 hd (nw := i) (ol := i + 1) (by omega) (by omega) (by omega) hb) ?_
  rintro ⟨x, h1⟩ ⟨q1, ⟨L, q2⟩, q3⟩
  dsimp only at q1 q2 q3 ⊢
  subst q1
  rw [hK] at q2 ⊢
  have s1 := STO_off s q3 (by omega)
  refine wb (X3_sizeOf_is s1 (i := i) (by omega)) ?_
  refine wb (X3_sizeOf_is s1 (i := i + 1) (by omega)) ?_
  rw [zI_add, zI_sub, ← hvn]
  refine wb (STO_w s1).1 ?_
  refine wb (X3_startOf_is s1 (i := i + 1) (by omega)) ?_
  refine wb (X3_endOf_is s1 (i := i) (by omega)) ?_
  refine wb (STO_w s1).2.2.2 ?_
  refine wb (CLNX_0 q2).1 ?_
  rw [show sOf S (i + 1) = (((sOf S (i + 1)).toNat : Nat) : Int) by omega, show eOf S i = (((eOf S i).toNat : Nat) : Int) by omega]
  refine wpb (STO_rep s1 (CLNX_w q2) hd (by omega) (by omega) (by omega)) ?_
  rintro h3 ⟨s3, o3⟩
  have k3 := CLNX_off q2 o3 (by omega)
  refine wb (STO_gI s3).1 ?_
  dsimp only
  rw [zI_add]
  refine wpb (STO_few s3 _) ?_
  rintro h4 ⟨s4, o4⟩
  have k4 := CLNX_off k3 o4 (by omega)
  have fr4 : FR c a h h4 := FR_trans (FR_c q3 (by omega)) (FR_trans (FR_c o3 (by omega)) (FR_c o4 (by omega)))
  dsimp only at s4
  obtain ⟨o, ho⟩ : ∃ o : Nat, (o : Int) = (S.2.1.length : Int) - 2 - i := ⟨((S.2.1.length : Int) - 2 - i).toNat, by omega⟩
  have ho2 : ((S.2.1.length : Int) - 2 - i).toNat = o := by omega
  have fin : ∀ g0 : Nat, g0 = mgG S i → 1 ≤ g0 ∧ g0 ≤ 2 → WP (b_X3_mergeRuns_100 a FU h4 (zI (mgK S i).length) (zI (mgV S i)) (zI (g0 : Nat)) (zI ((S.2.1.length : Int) - ((2 : Nat) : Int) - i))) (fun r => r.1 = zI (mgK S i).length ∧ STO r.2 c a cap (mgS S i) ∧ CLN r.2 c ∧ FR c a h r.2) := by
    intro g0 hg0 hg1
    have hT : mgS S i = (rep S i (i + 1), mgE S.2.1 o g0 (mgV S i), S.2.2.1, S.2.2.2.1, S.2.2.2.2 + mgV S i) := by
      unfold mgS
      rw [ho2, hg0]
    obtain ⟨fe, fy, e0, e1', e2', e3, r1, r2, cc1, cc2⟩ := s4
    dsimp only at e0 e1' e2' e3 r1 r2 cc1 cc2
    have h9 := mR_100 (sv := mgV S i) (x := zI (mgK S i).length) (h0 := h4) cc1 hl.2 (o := o) (g := g0) hg1 (by omega) r2 cc2 (S.2.1.length - o - g0) FU h4 fe o (by unfold FU; omega) (by omega) (Nat.le_refl _) e0 e1' e2' e3 (OFF_refl _ _ _) (fun y => by rw [if_neg (by omega)])
    rw [show (S.2.1.length : Int) - ((2 : Nat) : Int) - i = (o : Int) by omega, hT]
    refine wm h9 ?_
    rintro ⟨y, h5⟩ ⟨t1, t2, t3⟩
    exact ⟨t1, t2, ⟨_, L, CLNX_off k4 t3 (by omega)⟩, FR_trans fr4 (FR_c t3 (by omega))⟩
  by_cases c1 : (mgK S i).length = 0
  · refine wt ((zI_le (by omega)).mpr (by omega)) ?_
    exact fin 2 (by unfold mgG; rw [if_neg (by omega)]) (by omega)
  · refine wf (fun d => c1 (by have := (zI_le (by omega)).mp d; omega)) ?_
    exact fin 1 (by unfold mgG; rw [if_pos (by omega)]) (by omega)
