theorem X3_flushMemory_is {h : HP} {c a cap : Nat} {S : SG} (e : CLN h c) (s : STO h c a cap S) {M : Int} (H : SOK S M) (hl : S.1.length ≤ 148 ∧ S.2.1.length ≤ 5) (hd : a + 8 ≤ c ∨ c + 158 ≤ a) (hb : (flK S).length ≤ 348) (hc : sOf S (-1) + (flK S).length ≤ cap) : WP (f_X3_flushMemory h a) (fun r => r.1 = zI (flK S).length ∧ STO r.2 c a cap (flS S) ∧ CLN r.2 c ∧ FR c a h r.2) := by
  have hE := H.2.2.2.2.2.2
  have hp := plc hE (i := -1) (by omega)
  have hm1 := eOf_m1 S
  have hK : clP S (-1) (-1) = flK S := rfl
  unfold f_X3_flushMemory b_X3_flushMemory_0
  simp only [zm1]
  refine wb (STO_w s).2.2.1 ?_
  refine wb (STO_w s).2.2.2 ?_
  refine wpb (clean_at e s H hl.1 hd (nw := -1) (ol := -1) (by omega) (by omega) (by omega) hb) ?_
  rintro ⟨x, h1⟩ ⟨q1, ⟨L, q2⟩, q3⟩
  dsimp only at q1 q2 q3 ⊢
  subst q1
  rw [hK] at q2 ⊢
  have s1 := STO_off s q3 (by omega)
  refine wb (STO_gI s1).1 ?_
  refine wb (X3_sizeOf_is s1 (i := -1) (by omega)) ?_
  rw [zI_sub, zI_add]
  refine wpb (STO_few s1 _) ?_
  rintro h2 ⟨s2, o2⟩
  have k2 := CLNX_off q2 o2 (by omega)
  refine wb (STO_w s2).1 ?_
  refine wb (X3_startOf_is s2 (i := -1) (by omega)) ?_
  refine wb (X3_endOf_is s2 (i := -1) (by omega)) ?_
  refine wb (STO_w s2).2.2.2 ?_
  refine wb (CLNX_0 k2).1 ?_
  have e1 : sOf ((S.1, S.2.1, S.2.2.1, S.2.2.2.1, S.2.2.2.2 + (eOf S (-1) - sOf S (-1) - ((flK S).length : Int))) : SG) (-1) = (((sOf S (-1)).toNat : Nat) : Int) := by
    show sOf S (-1) = _
    omega
  have e2 : eOf ((S.1, S.2.1, S.2.2.1, S.2.2.2.1, S.2.2.2.2 + (eOf S (-1) - sOf S (-1) - ((flK S).length : Int))) : SG) (-1) = (((eOf S (-1)).toNat : Nat) : Int) := by
    show eOf S (-1) = _
    omega
  rw [e1, e2]
  refine wpb (STO_rep s2 (CLNX_w k2) hd (by omega) (by dsimp only; omega) (by dsimp only; omega)) ?_
  rintro h3 ⟨s3, o3⟩
  have k3 := CLNX_off k2 o3 (by omega)
  have fr3 : FR c a h h3 := FR_trans (FR_c q3 (by omega)) (FR_trans (FR_c o2 (by omega)) (FR_c o3 (by omega)))
  dsimp only at s3
  by_cases c1 : (flK S).length = 0
  · rw [zl0]
    refine wt ((zI_le (by omega)).mpr (by omega)) ?_
    have hT : flS S = (rep S (-1) (-1), S.2.1, S.2.2.1, S.2.2.2.1, S.2.2.2.2 + (eOf S (-1) - sOf S (-1) - (flK S).length)) := by
      unfold flS
      rw [if_neg (by omega)]
    rw [hT]
    exact wr ⟨rfl, s3, ⟨_, L, k3⟩, fr3⟩
  · rw [zl0, zl1]
    refine wf (fun d => c1 (by have := (zI_le (by omega)).mp d; omega)) ?_
    refine wb (STO_gI s3).2.1 ?_
    refine wb (STO_gI s3).2.2.1 ?_
    refine wb (STO_gI s3).2.2.2 ?_
    dsimp only
    refine wf (fun d => absurd ((zI_le (by omega)).mp d) (by omega)) ?_
    refine wb (STO_gI s3).2.2.1 ?_
    refine wb (STO_gI s3).2.1 ?_
    refine wb (STO_w s3).1 ?_
    refine wb (X6_size_is (STO_w s3).2.1) ?_
    have hrl := rep_len (S := S) (nw := -1) (ol := -1) (by omega)
    rw [hK] at hrl
    have hT : flS S = (rep S (-1) (-1), S.2.1 ++ [sOf S (-1) + (flK S).length], S.2.2.1, S.2.2.2.1, S.2.2.2.2 + (eOf S (-1) - sOf S (-1) - (flK S).length)) := by
      unfold flS
      rw [if_pos (by omega)]
    rw [hT]
    have hsz : ((S.1.take (sOf S (-1)).toNat ++ flK S ++ S.1.drop (eOf S (-1)).toNat).length : Int) = sOf S (-1) + (flK S).length := by
      have : rep S (-1) (-1) = S.1.take (sOf S (-1)).toNat ++ flK S ++ S.1.drop (eOf S (-1)).toNat := rfl
      rw [← this, hrl]
      omega
    obtain ⟨fe, fy, e0, e1', e2', e3, r1, r2, cc1, cc2⟩ := s3
    dsimp only at e0 e1' e2' e3 r1 r2 cc1 cc2 ⊢
    rw [hsz]
    refine wb (wI_e e1' (by omega)) ?_
    have j0 := (hup_ne h3 (e := .inl (0, 6, .inl (upd fe (S.2.1.length : Int).toNat (zI (sOf S (-1) + (flK S).length))))) (show a ≠ a + 1 by omega)).trans e0
    have j2 := ARR_ne (e := .inl (0, 6, .inl (upd fe (S.2.1.length : Int).toNat (zI (sOf S (-1) + (flK S).length))))) e2' (show a + 2 ≠ a + 1 by omega)
    have j1 := ARR_eq h3 (a + 1) 6 (upd fe (S.2.1.length : Int).toNat (zI (sOf S (-1) + (flK S).length)))
    have o4 := OFF_up (OFF_refl a 8 h3) (c := a + 1) (e := .inl (0, 6, .inl (upd fe (S.2.1.length : Int).toNat (zI (sOf S (-1) + (flK S).length))))) (by omega)
    have j3 := WRS_off e3 (OFF_up (OFF_refl (a + 1) 1 h3) (c := a + 1) (e := .inl (0, 6, .inl (upd fe (S.2.1.length : Int).toNat (zI (sOf S (-1) + (flK S).length))))) (by omega)) (by omega)
    generalize hup h3 (a + 1) _ = h4 at *
    refine wb (gI_e j0 rfl) ?_
    rw [zI_add]
    refine wb (pI_e2 (fs2 := [.ref c, .ref (a + 3), .ref (a + 1), .ref (a + 2), .int (zI ((S.2.1.length : Int) + 1)), .int (zI S.2.2.1.length), .int (zI S.2.2.2.1), .int (zI (S.2.2.2.2 + (eOf S (-1) - sOf S (-1) - ((flK S).length : Int))))]) j0 (show 4 < 8 by omega) rfl) ?_
    have o5 := OFF_up (c := a) (e := .inr (3, [.ref c, .ref (a + 3), .ref (a + 1), .ref (a + 2), .int (zI ((S.2.1.length : Int) + 1)), .int (zI S.2.2.1.length), .int (zI S.2.2.2.1), .int (zI (S.2.2.2.2 + (eOf S (-1) - sOf S (-1) - ((flK S).length : Int))))])) o4 (by omega)
    refine wr ⟨rfl, ⟨_, fy, (hup_same _ _ _).trans ?_, ARR_ne j1 (by omega), ARR_ne j2 (by omega), WRS_off j3 (OFF_up (OFF_refl a 1 h4) (by omega)) (by omega), ?_, r2, ?_, cc2⟩, ⟨_, L, CLNX_off k3 o5 (by omega)⟩, FR_trans fr3 (FR_c o5 (by omega))⟩
    · dsimp only
      rw [List.length_append, List.length_singleton]
      rfl
    · dsimp only
      rw [List.length_append, List.length_singleton]
      omega
    · dsimp only
      rw [Int.toNat_natCast]
      exact CLU_app cc1 _
theorem mR_100 {a cap c : Nat} {es : List Int} {fe : Nat → Int32} (hfe : CLU fe es) (hes : es.length ≤ 6) {o g : Nat} (hg : 1 ≤ g ∧ g ≤ 2) (hog : o + g ≤ es.length) {sv : Int} {x : Int32} {ws : List WR} {Y : List Int} {lat few : Int} {h0 : HP} (hY : Y.length ≤ 2) {fy : Nat → Int32} (hfy : CLU fy Y) : ∀ (d n : Nat) (h : HP) (F : Nat → Int32) (k : Nat), d < n → k + g + d = es.length → o ≤ k → h a = some (.inr (3, [.ref c, .ref (a + 3), .ref (a + 1), .ref (a + 2), .int (zI es.length), .int (zI Y.length), .int (zI lat), .int (zI few)])) → ARR h (a + 1) 6 F → ARR h (a + 2) 2 fy → WRS h (a + 3) cap ws → OFF a 8 h0 h → (∀ y : Nat, F y = if o ≤ y ∧ y < k then zI (iat es ((y + g : Nat) : Int) - sv) else fe y) → WP (b_X3_mergeRuns_100 a n h x (zI sv) (zI g) (zI k)) (fun r => r.1 = x ∧ STO r.2 c a cap (ws, mgE es o g sv, Y, lat, few) ∧ OFF a 8 h0 r.2) := by
  intro d
  induction d with
  | zero =>
    intro n h F k hn hk hok e0 e1 e2 e3 of hF
    obtain ⟨n, rfl⟩ : ∃ k, n = k + 1 := ⟨n - 1, by omega⟩
    unfold b_X3_mergeRuns_100 c_X3_mergeRuns_100
    refine wb (gI_e e0 rfl) ?_
    rw [zI_add]
    refine wt ((zI_le (by omega)).mpr (by omega)) ?_
    refine wb (gI_e e0 rfl) ?_
    rw [zI_sub]
    refine wb (pI_e2 (fs2 := [.ref c, .ref (a + 3), .ref (a + 1), .ref (a + 2), .int (zI ((es.length : Int) - g)), .int (zI Y.length), .int (zI lat), .int (zI few)]) e0 (show 4 < 8 by omega) rfl) ?_
    have hel : (mgE es o g sv).length = es.length - g := mgE_len hog
    refine wr ⟨rfl, ⟨F, fy, (hup_same _ _ _).trans ?_, ARR_ne e1 (by omega), ARR_ne e2 (by omega), WRS_off e3 (OFF_up (OFF_refl a 1 h) (by omega)) (by omega), ?_, hY, fun y hy => ?_, hfy⟩, OFF_up of (by omega)⟩
    · dsimp only
      rw [hel, show ((es.length - g : Nat) : Int) = (es.length : Int) - g by omega]
    · dsimp only
      omega
    · dsimp only at hy ⊢
      rw [hel] at hy
      rw [mgE_at hog (by omega), hF y]
      by_cases c1 : y < o
      · rw [if_neg (by omega), if_pos (by omega)]
        exact hfe y (by omega)
      · rw [if_pos (by omega), if_neg (by omega)]
        rfl
  | succ d ih =>
    intro n h F k hn hk hok e0 e1 e2 e3 of hF
    obtain ⟨n, rfl⟩ : ∃ k, n = k + 1 := ⟨n - 1, by omega⟩
    unfold b_X3_mergeRuns_100 c_X3_mergeRuns_100
    refine wb (gI_e e0 rfl) ?_
    rw [zI_add]
    refine wf (fun d => absurd ((zI_le (by omega)).mp d) (by omega)) ?_
    refine wb (gR_e e0 rfl) ?_
    refine wb (gR_e e0 rfl) ?_
    have hv : F ((k : Int) + g).toNat = zI (iat es ((k + g : Nat) : Int)) := by
      rw [show ((k : Int) + g).toNat = k + g by omega, hF, if_neg (by omega)]
      exact hfe _ (by omega)
    refine wb (aI_v e1 (z := (k : Int) + g) (by omega) hv) ?_
    rw [zI_sub]
    refine wb (wI_e e1 (by omega)) ?_
    have h9 := ih n _ (upd F (k : Int).toNat (zI (iat es ((k + g : Nat) : Int) - sv))) (k + 1) (by omega) (by omega) (by omega) ((hup_ne h _ (show a ≠ a + 1 by omega)).trans e0) (ARR_eq h (a + 1) 6 _) (ARR_ne e2 (show a + 2 ≠ a + 1 by omega)) (WRS_off e3 (OFF_up (OFF_refl (a + 1) 1 h) (by omega)) (by omega)) (OFF_up of (by omega)) (fun y => by
      by_cases c1 : y = k
      · rw [upd_eq (by omega), if_pos (by omega), c1]
      · rw [upd_ne (by omega), hF y]
        by_cases c2 : o ≤ y ∧ y < k
        · rw [if_pos c2, if_pos (by omega)]
        · rw [if_neg c2, if_neg (by omega)])
    rw [cast1] at h9
    rw [zl1, zI_add]
    exact h9
theorem X3_mergeRuns_is {h : HP} {c a cap : Nat} {S : SG} (e : CLN h c) (s : STO h c a cap S) {M : Int} (H : SOK S M) (hl : S.1.length ≤ 148 ∧ S.2.1.length ≤ 6) (hd : a + 8 ≤ c ∨ c + 158 ≤ a) {i : Int} (hi : 0 ≤ i ∧ i + 1 < S.2.1.length) (hb : (mgK S i).length ≤ 348) (hc : S.1.length + (mgK S i).length - (eOf S i - sOf S (i + 1)) ≤ cap) : WP (f_X3_mergeRuns h a (zI i)) (fun r => r.1 = zI (mgK S i).length ∧ STO r.2 c a cap (mgS S i) ∧ CLN r.2 c ∧ FR c a h r.2) := by
  have hE := H.2.2.2.2.2.2
  obtain ⟨p1, p2, p3, p4, p5, p6, p7⟩ := mg_pre hE (i := i) (by omega)
  have hpl := plc2 S (i := i) (by omega)
  have hK : clP S i (i + 1) = mgK S i := rfl
  have hvn : mgV S i = eOf S i - sOf S i + (eOf S (i + 1) - sOf S (i + 1)) - (mgK S i).length := by
    unfold mgV
    omega
  unfold f_X3_mergeRuns b_X3_mergeRuns_0
  simp only [show (2 : Int32) = zI ((2 : Nat) : Int) by decide, show (1 : Int32) = zI ((1 : Nat) : Int) by decide, zl0, zI_add]
  refine wb (STO_w s).2.2.1 ?_
  refine wb (STO_gI s).2.1 ?_
  rw [zI_sub, zI_sub]
  refine wf (fun d => absurd ((zI_lt (by omega)).mp d) (by omega)) ?_
  refine wt ((zI_le (by omega)).mpr (by omega)) ?_
  refine wb (STO_w s).2.2.2 ?_
  rw [show i + ((1 : Nat) : Int) = i + 1 by omega]
  refine wpb (clean_at e s H hl.1 hd (nw := i) (ol := i + 1) (by omega) (by omega) (by omega) hb) ?_
  rintro ⟨x, h1⟩ ⟨q1, ⟨L, q2⟩, q3⟩
  dsimp only at q1 q2 q3 ⊢
  subst q1
  rw [hK] at q2 ⊢
  have s1 := STO_off s q3 (by omega)
  refine wb (X3_sizeOf_is s1 (i := i) (by omega)) ?_
  refine wb (X3_sizeOf_is s1 (i := i + 1) (by omega)) ?_
  rw [zI_add, zI_sub, ← hvn]
  refine wb (STO_w s1).1 ?_
  refine wb (X3_startOf_is s1 (i := i + 1) (by omega)) ?_
  refine wb (X3_endOf_is s1 (i := i) (by omega)) ?_
  refine wb (STO_w s1).2.2.2 ?_
  refine wb (CLNX_0 q2).1 ?_
  rw [show sOf S (i + 1) = (((sOf S (i + 1)).toNat : Nat) : Int) by omega, show eOf S i = (((eOf S i).toNat : Nat) : Int) by omega]
  refine wpb (STO_rep s1 (CLNX_w q2) hd (by omega) (by omega) (by omega)) ?_
  rintro h3 ⟨s3, o3⟩
  have k3 := CLNX_off q2 o3 (by omega)
  refine wb (STO_gI s3).1 ?_
  dsimp only
  rw [zI_add]
  refine wpb (STO_few s3 _) ?_
  rintro h4 ⟨s4, o4⟩
  have k4 := CLNX_off k3 o4 (by omega)
  have fr4 : FR c a h h4 := FR_trans (FR_c q3 (by omega)) (FR_trans (FR_c o3 (by omega)) (FR_c o4 (by omega)))
  dsimp only at s4
  obtain ⟨o, ho⟩ : ∃ o : Nat, (o : Int) = (S.2.1.length : Int) - 2 - i := ⟨((S.2.1.length : Int) - 2 - i).toNat, by omega⟩
  have ho2 : ((S.2.1.length : Int) - 2 - i).toNat = o := by omega
  have fin : ∀ g0 : Nat, g0 = mgG S i → 1 ≤ g0 ∧ g0 ≤ 2 → WP (b_X3_mergeRuns_100 a FU h4 (zI (mgK S i).length) (zI (mgV S i)) (zI (g0 : Nat)) (zI ((S.2.1.length : Int) - ((2 : Nat) : Int) - i))) (fun r => r.1 = zI (mgK S i).length ∧ STO r.2 c a cap (mgS S i) ∧ CLN r.2 c ∧ FR c a h r.2) := by
    intro g0 hg0 hg1
    have hT : mgS S i = (rep S i (i + 1), mgE S.2.1 o g0 (mgV S i), S.2.2.1, S.2.2.2.1, S.2.2.2.2 + mgV S i) := by
      unfold mgS
      rw [ho2, hg0]
    obtain ⟨fe, fy, e0, e1', e2', e3, r1, r2, cc1, cc2⟩ := s4
    dsimp only at e0 e1' e2' e3 r1 r2 cc1 cc2
    have h9 := mR_100 (sv := mgV S i) (x := zI (mgK S i).length) (h0 := h4) cc1 hl.2 (o := o) (g := g0) hg1 (by omega) r2 cc2 (S.2.1.length - o - g0) FU h4 fe o (by unfold FU; omega) (by omega) (Nat.le_refl _) e0 e1' e2' e3 (OFF_refl _ _ _) (fun y => by rw [if_neg (by omega)])
    rw [show (S.2.1.length : Int) - ((2 : Nat) : Int) - i = (o : Int) by omega, hT]
    refine wm h9 ?_
    rintro ⟨y, h5⟩ ⟨t1, t2, t3⟩
    exact ⟨t1, t2, ⟨_, L, CLNX_off k4 t3 (by omega)⟩, FR_trans fr4 (FR_c t3 (by omega))⟩
  by_cases c1 : (mgK S i).length = 0
  · refine wt ((zI_le (by omega)).mpr (by omega)) ?_
    exact fin 2 (by unfold mgG; rw [if_neg (by omega)]) (by omega)
  · refine wf (fun d => c1 (by have := (zI_le (by omega)).mp d; omega)) ?_
    exact fin 1 (by unfold mgG; rw [if_pos (by omega)]) (by omega)
def SML (S : SG) : Prop := S.1.length ≤ 48 ∧ S.2.1.length ≤ 5 ∧ S.2.2.1.length ≤ 2
def GOK (S : SG) (M : Int) : Prop := SOK S M ∧ SML S
theorem GOK_up {S : SG} {M M' : Int} (H : GOK S M) (h : M ≤ M' ∧ M' < 1000000) : GOK S M' := ⟨SOK_up H.1 h, H.2⟩
def cFlush (S : SG) : Option SG := if flF S = 0 then some (flS S) else none
def cMerge (S : SG) (i : Int) : Option SG := if mgF S i = 0 then some (mgS S i) else none
def cmdS (c one two : Int) (S : SG) : Option SG := if c = 112 then cPut S one two else if c = 120 then cBury S one two else if c = 102 then cFlush S else if c = 109 then cMerge S one else if c = 111 then cOpen S else cClose S one
theorem wadd_ok {S : SG} {M : Int} (H : GOK S M) {p q v : Int} (hp : 0 ≤ p ∧ p ≤ q ∧ q ≤ 99) (hv : 0 ≤ v ∧ v ≤ 999) (he : 0 < v → p = q) (hl : S.1.length < 48) (hM : M + 1 < 1000000) : GOK (wadd S p q v) (M + 1) := by
  obtain ⟨⟨h1, h2, h3, h4, h5, h6, h7⟩, h8⟩ := H
  have hmem : ∀ w ∈ (wadd S p q v).1, w ∈ S.1 ∨ w = (S.2.2.2.1 + 1, p, q, v) := fun w hw => by
    rcases List.mem_append.mp hw with hw | hw
    · exact Or.inl hw
    · exact Or.inr (List.mem_singleton.mp hw)
  have hla : (wadd S p q v).1.length = S.1.length + 1 := by
    show (S.1 ++ [_]).length = _
    rw [List.length_append, List.length_singleton]
  refine ⟨⟨fun w hw => ?_, ?_, fun w hw h0 => ?_, fun w hw => ?_, fun e he => ?_, ?_, ?_⟩, ?_⟩
  · rcases hmem w hw with hw | rfl
    · exact h1 w hw
    · unfold WOK
      dsimp only
      omega
  · rw [ORD_pw]
    refine List.pairwise_append.mpr ⟨ORD_pw.mp h2, List.pairwise_singleton _ _, fun x hx y hy => ?_⟩
    rw [List.mem_singleton] at hy
    subst hy
    have := h4 x hx
    unfold LTW
    dsimp only
    omega
  · rcases hmem w hw with hw | rfl
    · exact h3 w hw h0
    · exact he h0
  · show 1 ≤ w.1 ∧ w.1 ≤ S.2.2.2.1 + 1
    rcases hmem w hw with hw | rfl
    · have := h4 w hw
      omega
    · dsimp only
      omega
  · show 0 ≤ e ∧ e ≤ S.2.2.2.1 + 1
    have := h5 e he
    omega
  · show 0 ≤ S.2.2.2.1 + 1 ∧ S.2.2.2.1 + 1 ≤ M + 1 ∧ M + 1 < 1000000
    omega
  · rw [hla]
    refine ⟨fun i hi => ?_, h7.2⟩
    have := h7.1 i hi
    show 0 < iat S.2.1 i ∧ iat S.2.1 i ≤ _
    omega
  · unfold SML at *
    rw [hla]
    show _ ∧ S.2.1.length ≤ 5 ∧ S.2.2.1.length ≤ 2
    omega
theorem mgF_0 {S : SG} {i : Int} (hF : mgF S i = 0) : (0 ≤ i ∧ i + 1 < S.2.1.length) ∧ S.1.length + (mgK S i).length - (eOf S i - sOf S (i + 1)) ≤ 48 := by
  unfold mgF at hF
  split at hF
  · omega
  · split at hF
    · omega
    · split at hF <;> omega
theorem flF_0 {S : SG} (hF : flF S = 0) : (eOf S (-1) - sOf S (-1) ≠ 0 ∧ S.2.1.length ≠ 5) ∧ sOf S (-1) + (flK S).length ≤ 48 := by
  unfold flF at hF
  split at hF
  · omega
  · split at hF <;> omega
theorem cmd_ok {S : SG} {M : Int} (H : GOK S M) (hM : M + 1 < 1000000) {c one two : Int} {T : SG} (h : cmdS c one two S = some T) : GOK T (M + 1) := by
  have hS := H.2
  unfold SML at hS
  have hE := H.1.2.2.2.2.2.2
  unfold cmdS at h
  split at h
  · unfold cPut putF at h
    by_cases c1 : ¬ (0 ≤ one ∧ one ≤ 99)
    · rw [if_pos c1, if_neg (by omega)] at h
      cases h
    · rw [if_neg c1] at h
      by_cases c2 : ¬ (1 ≤ two ∧ two ≤ 999)
      · rw [if_pos c2, if_neg (by omega)] at h
        cases h
      · rw [if_neg c2] at h
        by_cases c3 : S.1.length = 48
        · rw [if_pos c3, if_neg (by omega)] at h
          cases h
        · rw [if_neg c3, if_pos rfl] at h
          obtain rfl := Option.some.inj h
          exact wadd_ok H (by omega) (by omega) (fun _ => rfl) (by omega) hM
  · split at h
    · unfold cBury buryF at h
      by_cases c1 : ¬ (0 ≤ one ∧ one ≤ 99) ∨ ¬ (0 ≤ two ∧ two ≤ 99)
      · rw [if_pos c1, if_neg (by omega)] at h
        cases h
      · rw [if_neg c1] at h
        by_cases c2 : two < one
        · rw [if_pos c2, if_neg (by omega)] at h
          cases h
        · rw [if_neg c2] at h
          by_cases c3 : S.1.length = 48
          · rw [if_pos c3, if_neg (by omega)] at h
            cases h
          · rw [if_neg c3, if_pos rfl] at h
            obtain rfl := Option.some.inj h
            exact wadd_ok H (by omega) (by omega) (fun d => absurd d (by omega)) (by omega) hM
    · split at h
      · unfold cFlush at h
        split at h
        · rename_i c1
          obtain rfl := Option.some.inj h
          refine ⟨SOK_up (flS_ok H.1) (by omega), ?_⟩
          have hp := plc hE (i := -1) (by omega)
          have hm1 := eOf_m1 S
          have h0 := flF_0 c1
          have hl := rep_len (S := S) (nw := -1) (ol := -1) (by omega)
          have hk : (flK S).length = (clP S (-1) (-1)).length := rfl
          unfold SML flS
          dsimp only
          refine ⟨by omega, ?_, by omega⟩
          split
          · rw [List.length_append, List.length_singleton]
            omega
          · omega
        · cases h
      · split at h
        · unfold cMerge at h
          split at h
          · rename_i c1
            obtain rfl := Option.some.inj h
            obtain ⟨h0, h1⟩ := mgF_0 c1
            obtain ⟨p1, p2, p3, p4, p5, p6, p7⟩ := mg_pre hE h0
            refine ⟨SOK_up (mgS_ok H.1 h0) (by omega), ?_⟩
            have hl := rep_len (S := S) (nw := one) (ol := one + 1) (by omega)
            have hk : (mgK S one).length = (clP S one (one + 1)).length := rfl
            have hg : 1 ≤ mgG S one ∧ mgG S one ≤ 2 := by
              unfold mgG
              split <;> omega
            unfold SML mgS
            dsimp only
            rw [mgE_len (by omega)]
            omega
          · cases h
        · split at h
          · unfold cOpen at h
            split at h
            · obtain rfl := Option.some.inj h
              obtain ⟨⟨h1, h2, h3, h4, h5, h6, h7⟩, h8⟩ := H
              refine ⟨⟨h1, h2, h3, h4, fun e he => ?_, by dsimp only; omega, h7⟩, ?_⟩
              · dsimp only at he ⊢
                rcases List.mem_append.mp he with he | he
                · exact h5 e he
                · rw [List.mem_singleton] at he
                  omega
              · unfold SML
                dsimp only
                rw [List.length_append, List.length_singleton]
                omega
            · cases h
          · unfold cClose at h
            split at h
            · obtain rfl := Option.some.inj h
              obtain ⟨⟨h1, h2, h3, h4, h5, h6, h7⟩, h8⟩ := H
              refine ⟨⟨h1, h2, h3, h4, fun e he => ?_, by dsimp only; omega, h7⟩, ?_⟩
              · exact h5 e (List.mem_of_mem_eraseIdx he)
              · unfold SML
                dsimp only
                have := List.length_eraseIdx_le S.2.2.1 one.toNat
                omega
            · cases h
abbrev AB := SG × List SG × (Option SG × Option SG) × List Int
theorem TXT_mv {h h' : HP} {t : Nat} {l : List Int} (e : TXT h t l) (k : ∀ b, t ≤ b → b < t + 2 → h' b = h b) : TXT h' t l := by
  obtain ⟨f, e0, e1, r⟩ := e
  exact ⟨f, (k _ (by omega) (by omega)).trans e0, (k _ (by omega) (by omega)).trans e1, r⟩
theorem VIEW_mv {h h' : HP} {v : Nat} {f : Nat → Int} (e : VIEW h v f) (k : ∀ b, v ≤ b → b < v + 2 → h' b = h b) : VIEW h' v f := by
  obtain ⟨F, e0, e1, e2⟩ := e
  exact ⟨F, (k _ (by omega) (by omega)).trans e0, (k _ (by omega) (by omega)).trans e1, e2⟩
theorem HISC_mv {h h' : HP} {cl q : Nat} {l : List SG} (e : HISC h cl q l) (k : ∀ b, q ≤ b → b < q + 114 → h' b = h b) : HISC h' cl q l := by
  obtain ⟨o, G, e0, e1, e2, e3, e4, e5, e6⟩ := e
  refine ⟨o, G, (k _ (by omega) (by omega)).trans e0, (k _ (by omega) (by omega)).trans e1, e2, e3, e4, fun i hi => ?_, fun i hi => ?_⟩
  · obtain ⟨S, hS⟩ := e5 i hi
    exact ⟨S, STO_mv hS fun b h1 h2 => k b (by omega) (by omega)⟩
  · exact STO_mv (e6 i hi) fun b h1 h2 => k b (by omega) (by omega)
theorem CLN_mv {h h' : HP} {c : Nat} (e : CLN h c) (k : ∀ b, c ≤ b → b < c + 158 → h' b = h b) : CLN h' c := by
  obtain ⟨ws, L, G, e0, e1, e2, e3, e4⟩ := e
  refine ⟨ws, L, G, (k _ (by omega) (by omega)).trans e0, (k _ (by omega) (by omega)).trans e1, e2, WRS_mv e3 (fun b h1 h2 => k b (by omega) (by omega)), fun i hi => ?_⟩
  obtain ⟨lo, hi', g0, g1⟩ := e4 i hi
  exact ⟨lo, hi', (k _ (by omega) (by omega)).trans g0, g1⟩
def SLC (h : HP) (x : Nat) (s : Option SG × Option SG) : Prop := ∃ (G : Nat → Option Nat) (fl : Nat → Int32), h (x + 291) = some (.inl (4, 2, .inr (.inr (.inr (.inr G))))) ∧ (G 0 = some (x + 292) ∧ G 1 = some (x + 300)) ∧ h (x + 308) = some (.inl (1, 2, .inl fl)) ∧ (fl 0 = tB (s.1.isSome = true) ∧ fl 1 = tB (s.2.isSome = true)) ∧ (∃ T, STO h (x + 1) (x + 292) 48 T ∧ ∀ U, s.1 = some U → T = U) ∧ ∃ T, STO h (x + 1) (x + 300) 48 T ∧ ∀ U, s.2 = some U → T = U
theorem SLC_mv {h h' : HP} {x : Nat} {s : Option SG × Option SG} (e : SLC h x s) (k : ∀ b, x + 291 ≤ b → b < x + 309 → h' b = h b) : SLC h' x s := by
  obtain ⟨G, fl, e0, e1, e2, e3, ⟨T, e4, e5⟩, U, e6, e7⟩ := e
  exact ⟨G, fl, (k _ (by omega) (by omega)).trans e0, e1, (k _ (by omega) (by omega)).trans e2, e3, ⟨T, STO_mv e4 fun b h1 h2 => k b (by omega) (by omega), e5⟩, U, STO_mv e6 fun b h1 h2 => k b (by omega) (by omega), e7⟩
def xrow (x : Nat) : List Value := [.ref (x + 159), .ref (x + 161), .ref (x + 169), .ref (x + 177), .ref (x + 291), .ref (x + 308), .ref (x + 309)]
def CLS (h : HP) (x : Nat) (A : AB) : Prop := h x = some (.inr (7, xrow x)) ∧ CLN h (x + 1) ∧ TXT h (x + 159) A.2.2.2 ∧ STO h (x + 1) (x + 161) 48 A.1 ∧ (∃ T, STO h (x + 1) (x + 169) 148 T) ∧ HISC h (x + 1) (x + 177) A.2.1 ∧ SLC h x A.2.2.1 ∧ ∃ f, VIEW h (x + 309) f
theorem CLS_st {h h' : HP} {x : Nat} {A : AB} (e : CLS h x A) (k : FR (x + 1) (x + 161) h h') (c : CLN h' (x + 1)) {S : SG} (s : STO h' (x + 1) (x + 161) 48 S) : CLS h' x (S, A.2) := by
  obtain ⟨e0, e1, e2, e3, ⟨T, e4⟩, e5, e6, f, e7⟩ := e
  exact ⟨(k _ (by omega) (by omega)).trans e0, c, TXT_mv e2 fun b h1 h2 => k b (by omega) (by omega), s, ⟨T, STO_mv e4 fun b h1 h2 => k b (by omega) (by omega)⟩, HISC_mv e5 fun b h1 h2 => k b (by omega) (by omega), SLC_mv e6 fun b h1 h2 => k b (by omega) (by omega), f, VIEW_mv e7 fun b h1 h2 => k b (by omega) (by omega)⟩
theorem CLS_tr {h h' : HP} {x : Nat} {A : AB} (e : CLS h x A) (k : FR (x + 1) (x + 169) h h') (c : CLN h' (x + 1)) {S : SG} (s : STO h' (x + 1) (x + 169) 148 S) : CLS h' x A := by
  obtain ⟨e0, e1, e2, e3, -, e5, e6, f, e7⟩ := e
  exact ⟨(k _ (by omega) (by omega)).trans e0, c, TXT_mv e2 fun b h1 h2 => k b (by omega) (by omega), STO_mv e3 fun b h1 h2 => k b (by omega) (by omega), ⟨S, s⟩, HISC_mv e5 fun b h1 h2 => k b (by omega) (by omega), SLC_mv e6 fun b h1 h2 => k b (by omega) (by omega), f, VIEW_mv e7 fun b h1 h2 => k b (by omega) (by omega)⟩
theorem CLS_cl {h h' : HP} {x : Nat} {A : AB} (e : CLS h x A) (k : OFF (x + 1) 158 h h') (c : CLN h' (x + 1)) : CLS h' x A := by
  obtain ⟨e0, e1, e2, e3, ⟨T, e4⟩, e5, e6, f, e7⟩ := e
  exact ⟨(k _ (by omega)).trans e0, c, TXT_off e2 k (by omega), STO_off e3 k (by omega), ⟨T, STO_off e4 k (by omega)⟩, HISC_mv e5 fun b h1 h2 => k b (by omega), SLC_mv e6 fun b h1 h2 => k b (by omega), f, VIEW_off e7 k (by omega)⟩
theorem CLS_vw {h h' : HP} {x : Nat} {A : AB} (e : CLS h x A) (k : OFF (x + 309) 2 h h') {f : Nat → Int} (v : VIEW h' (x + 309) f) : CLS h' x A := by
  obtain ⟨e0, e1, e2, e3, ⟨T, e4⟩, e5, e6, -⟩ := e
  exact ⟨(k _ (by omega)).trans e0, CLN_off e1 k (by omega), TXT_off e2 k (by omega), STO_off e3 k (by omega), ⟨T, STO_off e4 k (by omega)⟩, HISC_mv e5 fun b h1 h2 => k b (by omega), SLC_mv e6 fun b h1 h2 => k b (by omega), f, v⟩
theorem CLS_hi {h h' : HP} {x : Nat} {A : AB} (e : CLS h x A) (k : OFF (x + 177) 114 h h') {l : List SG} (v : HISC h' (x + 1) (x + 177) l) : CLS h' x (A.1, l, A.2.2) := by
  obtain ⟨e0, e1, e2, e3, ⟨T, e4⟩, e5, e6, f, e7⟩ := e
  exact ⟨(k _ (by omega)).trans e0, CLN_off e1 k (by omega), TXT_off e2 k (by omega), STO_off e3 k (by omega), ⟨T, STO_off e4 k (by omega)⟩, v, SLC_mv e6 fun b h1 h2 => k b (by omega), f, VIEW_off e7 k (by omega)⟩
theorem CLS_g {h : HP} {x : Nat} {A : AB} (e : CLS h x A) : kO 7 h x = some () ∧ gR 7 0 h x = some (x + 159) ∧ gR 7 1 h x = some (x + 161) ∧ gR 7 2 h x = some (x + 169) ∧ gR 7 3 h x = some (x + 177) ∧ gR 7 4 h x = some (x + 291) ∧ gR 7 5 h x = some (x + 308) ∧ gR 7 6 h x = some (x + 309) := by
  obtain ⟨e0, -⟩ := e
  exact ⟨kO_e e0, gR_e e0 rfl, gR_e e0 rfl, gR_e e0 rfl, gR_e e0 rfl, gR_e e0 rfl, gR_e e0 rfl, gR_e e0 rfl⟩
theorem CLS_S {h : HP} {x : Nat} {A : AB} (e : CLS h x A) : STO h (x + 1) (x + 161) 48 A.1 := e.2.2.2.1
def AOK (A : AB) (M : Int) : Prop := GOK A.1 M ∧ (∀ T ∈ A.2.1, GOK T M) ∧ (∀ T, A.2.2.1.1 = some T → GOK T M) ∧ ∀ T, A.2.2.1.2 = some T → GOK T M
theorem AOK_up {A : AB} {M M' : Int} (H : AOK A M) (h : M ≤ M' ∧ M' < 1000000) : AOK A M' := ⟨GOK_up H.1 h, fun T hT => GOK_up (H.2.1 T hT) h, fun T hT => GOK_up (H.2.2.1 T hT) h, fun T hT => GOK_up (H.2.2.2 T hT) h⟩
theorem getD_ok {S : SG} {M : Int} (H : GOK S M) (hM : M + 1 < 1000000) (c one two : Int) : GOK ((cmdS c one two S).getD S) (M + 1) := by
  cases hc : cmdS c one two S with
  | none => exact GOK_up H (by omega)
  | some T => exact cmd_ok H hM hc
def EXC (ns : List String) (c v : Int) : Int32 ⊕ String := if c = 0 then .inl (zI v) else .inr (ns.getD (c - 1).toNat "")
def CLR7 (x : Nat) (A : AB) (ns : List String) (c v : Int) (h : HP) (r : (Int32 ⊕ String) × HP) : Prop := r.1 = EXC ns c v ∧ CLS r.2 x A ∧ OFF x 311 h r.2
def IAE : String := "java/lang/IllegalArgumentException"
def ISE : String := "java/lang/IllegalStateException"
def IOB : String := "java/lang/IndexOutOfBoundsException"
theorem EXC_0 (ns : List String) {c v : Int} (h : c = 0) : EXC ns c v = .inl (zI v) := by
  unfold EXC
  rw [if_pos h]
