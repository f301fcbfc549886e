/-! fewest, on both sides -/
theorem FIT_flush {S : SG} {M : Int} (H : SOK S M) (hY : S.2.2.1 = []) (hl : S.1.length ≤ 48 ∧ S.2.1.length ≤ 5) (hm : sOf S (-1) < S.1.length) : (flK S).length ≤ 348 ∧ sOf S (-1) + (flK S).length ≤ 148 ∧ (∀ k : Int, st (flS S).1 k = some true ↔ st S.1 k = some true) ∧ (S.2.1.length = 0 → (flS S).2.1.length ≤ 1 ∧ ((flS S).1.length : Int) = cnt (fun k => st S.1 k = some true) 0 100) ∧ (1 ≤ S.2.1.length → (flS S).2.1.length = S.2.1.length + 1 ∧ FIT (flS S) M) := by
  have hE := H.2.2.2.2.2.2
  have hp := plc hE (i := -1) (by omega)
  have he := eOf_m1 S
  obtain ⟨a, ha⟩ : ∃ a : Nat, sOf S (-1) = a := ⟨(sOf S (-1)).toNat, by omega⟩
  have hK : flK S = clL S.1 [] a S.1.length (decide ((-1 : Int) = S.2.1.length - 1)) := by
    unfold flK clP
    rw [hY, ha, he]
    rfl
  have hR : (flS S).1 = wcl S.1 [] a S.1.length (decide ((-1 : Int) = S.2.1.length - 1)) := by
    unfold flS rep wcl
    dsimp only
    rw [show clP S (-1) (-1) = flK S from rfl, hK, ha, he]
    rfl
  have hlen := clL_len0 (p := a) (o := decide ((-1 : Int) = S.2.1.length - 1)) H.1 H.2.2.1 H.2.1 (by omega)
  rw [← hK] at hlen
  have hen : en (flK S) ≤ en (S.1.drop a) := by
    rw [hK]
    exact en_clL H.1 H.2.2.1 (by omega)
  have hle := en_le (S.1.drop a)
  rw [List.length_drop] at hle
  have o0 : decide ((-1 : Int) = S.2.1.length - 1) = true → a = 0 := by
    intro d
    have d' := of_decide_eq_true d
    have : sOf S (-1) = 0 := iat_out (by omega)
    omega
  have hLR : (flS S).1.length = a + (flK S).length := by
    rw [hR]
    unfold wcl
    rw [← hK, List.length_append, List.length_append, List.length_take, List.length_drop]
    omega
  refine ⟨by omega, by omega, fun k => ?_, fun hr => ?_, fun hr => ?_⟩
  · rw [hR]
    exact st_wcl H.1 (by omega) (Nat.le_refl _) o0
  · have d : decide ((-1 : Int) = S.2.1.length - 1) = true := decide_eq_true (by omega)
    have ha0 := o0 d
    constructor
    · unfold flS
      dsimp only
      split
      · rw [List.length_append, List.length_singleton]
        omega
      · omega
    · rw [hLR, hK, d, ha0, ← len_all H.1 H.2.2.1]
      omega
  · have d : decide ((-1 : Int) = S.2.1.length - 1) = false := decide_eq_false (by omega)
    have hpos : 0 < (flK S).length := by
      rw [hK, d]
      exact clL_pos H.1 (by omega) (Nat.le_refl _)
    have hes : (flS S).2.1 = S.2.1 ++ [sOf S (-1) + (flK S).length] := by
      unfold flS
      dsimp only
      rw [if_pos hpos]
    have hl2 : (flS S).2.1.length = S.2.1.length + 1 := by
      rw [hes, List.length_append, List.length_singleton]
    have s0 : sOf (flS S) 0 = a := by
      have h1 : sOf (flS S) 0 = iat (flS S).2.1 ((flS S).2.1.length - 2 - 0) := rfl
      rw [h1, hl2, hes, show (((S.2.1.length + 1 : Nat) : Int) - 2 - 0) = ((S.2.1.length - 1 : Nat) : Int) by omega, iat_app (by omega), ← ha]
      unfold sOf
      congr 1
      omega
    have sm : sOf (flS S) (-1) = (flS S).1.length := by
      rw [hLR]
      have h1 : sOf (flS S) (-1) = iat (flS S).2.1 ((flS S).2.1.length - 2 - -1) := rfl
      rw [h1, hl2, hes, show (((S.2.1.length + 1 : Nat) : Int) - 2 - -1) = (S.2.1.length : Nat) by omega, iat_last rfl, ha]
      omega
    refine ⟨hl2, flS_ok H, hY, by omega, by omega, sm, ?_⟩
    rw [s0, Int.toNat_natCast, hR]
    unfold wcl
    rw [← hK, List.drop_length, List.append_nil, List.drop_append_of_le_length (by rw [List.length_take]; omega), List.drop_of_length_le (by rw [List.length_take]; omega), List.nil_append]
    omega
theorem few_end {x n : Nat} {h : HP} {A : AB} (e : CLS h x A) {S : SG} (s : STO h (x + 1) (x + 169) 148 S) (hr : S.2.1.length ≤ 1) {j : Int} (hj : 0 ≤ j ∧ j ≤ 5) (hn : 0 < n) : b_X7_fewest_39 x n h (zI j) = some (zI S.1.length, h) := by
  obtain ⟨n, rfl⟩ : ∃ k, n = k + 1 := ⟨n - 1, by omega⟩
  unfold b_X7_fewest_39 c_X7_fewest_39 b_X7_fewest_70
  rw [show (5 : Int32) = zI 5 by decide, if_neg (fun d => absurd ((zI_lt (by omega)).mp d) (by omega)), (CLS_g e).2.2.2.1, Option.bind_some, X3_runs_is s, Option.bind_some, zl1, if_pos ((zI_le (by omega)).mpr (by omega)), Option.bind_some, X3_size_is s, Option.bind_some]
theorem C_fewL {x : Nat} {A : AB} {M : Int} {h0 : HP} : ∀ (r n : Nat) (h : HP) (j : Int) (S : SG), r + 1 < n → 0 ≤ j → j + r ≤ 4 → 2 ≤ S.2.1.length → S.2.1.length ≤ r + 2 → CLS h x A → STO h (x + 1) (x + 169) 148 S → FIT S M → OFF x 311 h0 h → WP (b_X7_fewest_39 x n h (zI j)) (fun r' => r'.1 = zI (cnt (fun k => st S.1 k = some true) 0 100) ∧ CLS r'.2 x A ∧ OFF x 311 h0 r'.2) := by
  intro r
  induction r with
  | zero =>
    intro n h j S hn hj hjr h2 hr e s F o
    obtain ⟨n, rfl⟩ : ∃ k, n = k + 1 := ⟨n - 1, by omega⟩
    obtain ⟨m1, m2, m3, m4, m5⟩ := FIT_merge F h2
    obtain ⟨H, hY, h148, h6, -⟩ := F
    unfold b_X7_fewest_39 c_X7_fewest_39
    simp only [show (5 : Int32) = zI 5 by decide, zl0, zl1, zI_add]
    refine wf (fun d => absurd ((zI_lt (by omega)).mp d) (by omega)) ?_
    refine wb (CLS_g e).2.2.2.1 ?_
    refine wb (X3_runs_is s) ?_
    refine wf (fun d => absurd ((zI_le (by omega)).mp d) (by omega)) ?_
    refine wb (CLS_g e).2.2.2.1 ?_
    refine wpb (X3_mergeRuns_is e.2.1 s H ⟨h148, h6⟩ (by omega) (i := 0) (by omega) m1 m2) ?_
    rintro ⟨y, h1⟩ ⟨q1, q2, q3, q4⟩
    dsimp only at q1 q2 q3 q4 ⊢
    have e1 := CLS_tr e q4 q3 q2
    obtain ⟨m6, m7⟩ := m4 (by omega)
    refine weq (few_end e1 q2 m6 (by omega) (by omega)) ⟨?_, e1, OFF_trans o (fun b hb => q4 b (by omega) (by omega))⟩
    rw [m7]
  | succ r ih =>
    intro n h j S hn hj hjr h2 hr e s F o
    obtain ⟨n, rfl⟩ : ∃ k, n = k + 1 := ⟨n - 1, by omega⟩
    obtain ⟨m1, m2, m3, m4, m5⟩ := FIT_merge F h2
    obtain ⟨H, hY, h148, h6, -⟩ := F
    unfold b_X7_fewest_39 c_X7_fewest_39
    simp only [show (5 : Int32) = zI 5 by decide, zl0, zl1, zI_add]
    refine wf (fun d => absurd ((zI_lt (by omega)).mp d) (by omega)) ?_
    refine wb (CLS_g e).2.2.2.1 ?_
    refine wb (X3_runs_is s) ?_
    refine wf (fun d => absurd ((zI_le (by omega)).mp d) (by omega)) ?_
    refine wb (CLS_g e).2.2.2.1 ?_
    refine wpb (X3_mergeRuns_is e.2.1 s H ⟨h148, h6⟩ (by omega) (i := 0) (by omega) m1 m2) ?_
    rintro ⟨y, h1⟩ ⟨q1, q2, q3, q4⟩
    dsimp only at q1 q2 q3 q4 ⊢
    have e1 := CLS_tr e q4 q3 q2
    have o1 : OFF x 311 h0 h1 := OFF_trans o (fun b hb => q4 b (by omega) (by omega))
    by_cases c : S.2.1.length = 2
    · obtain ⟨m6, m7⟩ := m4 c
      refine weq (few_end e1 q2 m6 (by omega) (by omega)) ⟨?_, e1, o1⟩
      rw [m7]
    · obtain ⟨m8, m9⟩ := m5 (by omega)
      have := ih n h1 (j + 1) _ (by omega) (by omega) (by omega) (by omega) (by omega) e1 q2 m9 o1
      rw [cnt_c (fun k _ _ => m3 k)] at this
      exact this
def fewV (S : SG) : Int := if eOf S (-1) - sOf S (-1) = 0 ∧ S.2.1.length < 2 then S.1.length else cnt (fun k => vw S k (-1) ≠ 0) 0 100
theorem C_few {h : HP} {x : Nat} {A : AB} (e : CLS h x A) {M : Int} (H : GOK A.1 M) : WP (f_X7_fewest h x) (fun r' => r'.1 = zI (fewV A.1) ∧ CLS r'.2 x A ∧ OFF x 311 h r'.2) := by
  have g := CLS_g e
  have hS := H.2
  unfold SML at hS
  unfold f_X7_fewest b_X7_fewest_0
  simp only [show (-1 : Int32) = zI (-1) by decide, zl0]
  refine wb g.1 ?_
  refine wb g.2.2.2.1 ?_
  refine wb g.2.2.1 ?_
  obtain ⟨T, hT⟩ := e.2.2.2.2.1
  refine wpb (X3_become_is hT (CLS_S e) (by omega) (by omega)) ?_
  rintro h1 ⟨q1, q2⟩
  have e1 := CLS_tr e (FR_c q2 (by omega)) (CLN_off e.2.1 q2 (by omega)) q1
  refine wb (CLS_g e1).2.2.2.1 ?_
  refine wpb (X3_dropAllEyes_is q1) ?_
  rintro h2 ⟨q3, q4⟩
  have e2 := CLS_tr e1 (FR_c q4 (by omega)) (CLN_off e1.2.1 q4 (by omega)) q3
  have o2 : OFF x 311 h h2 := OFF_trans (OFF_wide q2 (by omega)) (OFF_wide q4 (by omega))
  obtain ⟨S, hSd⟩ : ∃ S : SG, S = (A.1.1, A.1.2.1, [], A.1.2.2.2.1, A.1.2.2.2.2) := ⟨_, rfl⟩
  rw [← hSd] at q3
  have H2 : SOK S M := by
    obtain ⟨a1, a2, a3, a4, a5, a6, a7⟩ := H.1
    subst hSd
    exact ⟨a1, a2, a3, a4, fun e he => absurd he List.not_mem_nil, a6, a7⟩
  have hY : S.2.2.1 = [] := by rw [hSd]
  have l1 : S.1.length = A.1.1.length := by rw [hSd]
  have l2 : S.2.1.length = A.1.2.1.length := by rw [hSd]
  have ws1 : S.1 = A.1.1 := by rw [hSd]
  have hs : sOf A.1 (-1) = sOf S (-1) := by
    unfold sOf
    rw [hSd]
  have hcnt : cnt (fun k => vw A.1 k (-1) ≠ 0) 0 100 = cnt (fun k => st S.1 k = some true) 0 100 := cnt_c fun k _ _ => by
    rw [ws1]
    exact st_vw H.1 k
  have hE := H2.2.2.2.2.2.2
  have hp := plc hE (i := -1) (by omega)
  have he := eOf_m1 S
  have he' := eOf_m1 A.1
  unfold fewV
  rw [hcnt, he', hs, ← l1, ← l2]
  refine wb (CLS_g e2).2.2.2.1 ?_
  refine wb (X3_sizeOf_is q3 (i := -1) (by omega)) ?_
  by_cases c : eOf S (-1) - sOf S (-1) ≤ 0
  · refine wt ((zI_le (by omega)).mpr c) ?_
    by_cases c2 : S.2.1.length < 2
    · rw [if_pos (by omega)]
      exact weq (few_end e2 q3 (by omega) (by omega) (by unfold FU; omega)) ⟨rfl, e2, o2⟩
    · rw [if_neg (by omega)]
      have hF : FIT S M := by
        refine ⟨H2, hY, by omega, by omega, by omega, ?_⟩
        have hp0 := plc hE (i := 0) (by omega)
        have := en_le (S.1.drop (sOf S 0).toNat)
        rw [List.length_drop] at this
        omega
      exact C_fewL 4 FU h2 0 S (by unfold FU; omega) (by omega) (by omega) (by omega) (by omega) e2 q3 hF o2
  · refine wf (fun d => c ((zI_le (by omega)).mp d)) ?_
    rw [if_neg (by omega)]
    obtain ⟨m1, m2, m3, m4, m5⟩ := FIT_flush H2 hY (by omega) (by omega)
    refine wb (CLS_g e2).2.2.2.1 ?_
    refine wpb (X3_flushMemory_is e2.2.1 q3 H2 (by omega) (by omega) m1 m2) ?_
    rintro ⟨y, h3⟩ ⟨t1, t2, t3, t4⟩
    dsimp only at t1 t2 t3 t4 ⊢
    have e3 := CLS_tr e2 t4 t3 t2
    have o3 : OFF x 311 h h3 := OFF_trans o2 (fun b hb => t4 b (by omega) (by omega))
    by_cases c2 : S.2.1.length = 0
    · obtain ⟨m6, m7⟩ := m4 c2
      refine weq (few_end e3 t2 m6 (by omega) (by unfold FU; omega)) ⟨?_, e3, o3⟩
      rw [m7]
    · obtain ⟨m8, m9⟩ := m5 (by omega)
      have := C_fewL 4 FU h3 0 _ (by unfold FU; omega) (by omega) (by omega) (by omega) (by omega) e3 t2 m9 o3
      rw [cnt_c (fun k _ _ => m3 k)] at this
      exact this
theorem fewV_1 {S : SG} (h : eOf S (-1) - sOf S (-1) = 0 ∧ S.2.1.length < 2) : fewV S = S.1.length := if_pos h
theorem fewV_0 {S : SG} (h : ¬ (eOf S (-1) - sOf S (-1) = 0 ∧ S.2.1.length < 2)) : fewV S = cnt (fun k => vw S k (-1) ≠ 0) 0 100 := if_neg h
theorem R_few {h : HP} {m : Nat} {v : Nat → Int32} {A : AB} (e : RFV h m v A) {M : Int} (H : GOK A.1 M) : WP (f_X8_fewest h m) (fun r' => r'.1 = zI (fewV A.1) ∧ (∃ w, RFV r'.2 m w A) ∧ OFF m 9 h r'.2) := by
  have hS := H.2
  unfold SML at hS
  have hMM := H.1.2.2.2.2.2.1
  have hE := H.1.2.2.2.2.2.2
  have hp := plc hE (i := -1) (by omega)
  unfold f_X8_fewest b_X8_fewest_0 b_X8_fewest_32
  simp only [show (-1 : Int32) = zI (-1) by decide, show (6 : Int32) = zI 6 by decide, show (2 : Int32) = zI 2 by decide, show (99 : Int32) = zI 99 by decide, zl0]
  refine wb (kO_e e.1) ?_
  refine wpb (pI_M e.1 (by omega)) ?_
  rintro h1 ⟨q1, q2⟩
  have e1 := RFV_0 e q2 q1 (upd_ne (by omega)) (upd_ne (by omega))
  obtain ⟨f, -, k1, ⟨b, u0, u1, u2, u3, u4, u5, u6, u7⟩⟩ := REF_MOB e1.2.1 e1.1
  have sn := X8_countSeen_is e1.2.1 H.1.1 H.1.2.1 (SOK_Y H.1) ⟨hMM.1, hMM.2.1⟩ hMM.2.2 (s := 0) (t := 99) (x := -1) (by omega) (by omega) (by omega)
  refine wb (gR_e e1.1 rfl) ?_
  refine wb (aI_v k1 (z := 6) (by omega) u2) ?_
  by_cases c : eOf A.1 (-1) - sOf A.1 (-1) = 0
  · refine wt ((zI_inj (by omega)).mpr c) ?_
    refine wb (gR_e e1.1 rfl) ?_
    refine wb (aI_v k1 (z := 0) (by omega) u0) ?_
    by_cases c2 : A.1.2.1.length < 2
    · rw [fewV_1 ⟨c, c2⟩]
      refine wf (fun d => absurd ((zI_le (by omega)).mp d) (by omega)) ?_
      refine wb (X8_all_is e1.2.1) ?_
      exact wr ⟨rfl, ⟨_, e1⟩, OFF_wide q2 (by omega)⟩
    · rw [fewV_0 (fun d => c2 d.2)]
      refine wt ((zI_le (by omega)).mpr (by omega)) ?_
      refine wb sn ?_
      exact wr ⟨rfl, ⟨_, e1⟩, OFF_wide q2 (by omega)⟩
  · rw [fewV_0 (fun d => c d.1)]
    refine wf (fun d => c ((zI_inj (by omega)).mp d)) ?_
    refine wb sn ?_
    exact wr ⟨rfl, ⟨_, e1⟩, OFF_wide q2 (by omega)⟩
