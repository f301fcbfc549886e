/-! load -/
abbrev emp : SG := ([], [], [], 0, 0)
theorem emp_ok : GOK emp 0 := by
  refine ⟨⟨fun w hw => absurd hw List.not_mem_nil, ?_, fun w hw => absurd hw List.not_mem_nil, fun w hw => absurd hw List.not_mem_nil, fun w hw => absurd hw List.not_mem_nil, ⟨Int.le_refl _, Int.le_refl _, by omega⟩, ?_⟩, by unfold SML; decide⟩
  · rw [ORD_pw]
    exact List.Pairwise.nil
  · refine ⟨fun i hi => absurd hi (Nat.not_lt_zero i), ?_⟩
    intro i hi
    exact absurd hi (by simp)
theorem DR {l : List Int} (hb : ∀ j, -1 ≤ sgn l j ∧ sgn l j ≤ 255) (p : Int) : (-100000 < D1 l p ∧ D1 l p < 100000) ∧ (-100000 < D2 l p ∧ D2 l p < 100000) ∧ -100000 < D3 l p ∧ D3 l p < 100000 := by
  have h1 := hb p
  have h2 := hb (p + 1)
  have h3 := hb (p + 2)
  unfold D1 D2 D3
  omega
theorem cmd99 {l : List Int} {j : Nat} (c : sgn l j = 99) (S : SG) : cmdS (sgn l j) (oneC l j) (twoC l j) S = cClose S (D1 l ((j + 1 : Nat) : Int)) := by
  unfold cmdS oneC twoC
  rw [c]
  rfl
theorem cmd102 {l : List Int} {j : Nat} (c : sgn l j = 102) (S : SG) : cmdS (sgn l j) (oneC l j) (twoC l j) S = cFlush S := by
  unfold cmdS oneC twoC
  rw [c]
  rfl
theorem cmd109 {l : List Int} {j : Nat} (c : sgn l j = 109) (S : SG) : cmdS (sgn l j) (oneC l j) (twoC l j) S = cMerge S (D1 l ((j + 1 : Nat) : Int)) := by
  unfold cmdS oneC twoC
  rw [c]
  rfl
theorem cmd111 {l : List Int} {j : Nat} (c : sgn l j = 111) (S : SG) : cmdS (sgn l j) (oneC l j) (twoC l j) S = cOpen S := by
  unfold cmdS oneC twoC
  rw [c]
  rfl
theorem cmd112 {l : List Int} {j : Nat} (c : sgn l j = 112) (S : SG) : cmdS (sgn l j) (oneC l j) (twoC l j) S = cPut S (D2 l ((j + 1 : Nat) : Int)) (D3 l ((j + 3 : Nat) : Int)) := by
  unfold cmdS oneC twoC
  rw [c]
  rfl
theorem cmd120 {l : List Int} {j : Nat} (c : sgn l j = 120) (S : SG) : cmdS (sgn l j) (oneC l j) (twoC l j) S = cBury S (D2 l ((j + 1 : Nat) : Int)) (D2 l ((j + 3 : Nat) : Int)) := by
  unfold cmdS oneC twoC
  rw [c]
  rfl
theorem C_text {h : HP} {x : Nat} {A : AB} (e : CLS h x A) {M : Int} (H : GOK A.1 M) {l : List Int} {j : Nat} {t : Nat} (hT : A.2.2.2 = l) (hj : j < l.length) (hn : nd (sgn l j) ≠ -1) : WP (f_X7_doTextCommand h x (zI j)) (fun r => r.1 = tB ((cmdS (sgn l j) (oneC l j) (twoC l j) A.1).isSome = true) ∧ CLS r.2 x ((cmdS (sgn l j) (oneC l j) (twoC l j) A.1).getD A.1, A.2) ∧ OFF x 311 h r.2) := by
  subst hT
  have g := CLS_g e
  have s := CLS_S e
  have T := CLS_T e
  have hb := TXT_b T
  have hS := H.2
  unfold SML at hS
  have hL := (nd_let _).mp hn
  have hs := hb.2 j
  unfold f_X7_doTextCommand b_X7_doTextCommand_0
  generalize hl : A.2.2.2 = l at *
  simp only [show (112 : Int32) = zI 112 by decide, show (120 : Int32) = zI 120 by decide, show (109 : Int32) = zI 109 by decide, show (99 : Int32) = zI 99 by decide, show (102 : Int32) = zI 102 by decide, show (111 : Int32) = zI 111 by decide, show (3 : Int32) = zI 3 by decide, show (2 : Int32) = zI 2 by decide, zl1, zI_add]
  refine wb g.1 ?_
  refine wb g.2.1 ?_
  refine wb (X4_signAt_is T (j := j) (by omega)) ?_
  have tr : ∀ {f : Option (Int32 × HP)} {o : Option SG}, WP f (TRY (x + 1) (x + 161) 48 A.1 h o) → WP (f.bind fun y7 => (bz y7.1).bind fun x8 => some (x8, y7.2)) (fun r => r.1 = tB (o.isSome = true) ∧ CLS r.2 x (o.getD A.1, A.2) ∧ OFF x 311 h r.2) := by
    intro f o hf
    refine wpb hf ?_
    rintro ⟨z, h1⟩ ⟨q1, q2, q3⟩
    dsimp only at q1 q2 q3 ⊢
    subst q1
    refine wb bz_tB ?_
    exact wr ⟨rfl, CLS_st e (FR_c q3 (by omega)) (CLN_off e.2.1 q3 (by omega)) q2, OFF_wide q3 (by omega)⟩
  have tr2 : ∀ {f : Option (Int32 × HP)} {o : Option SG}, WP f (TRY2 (x + 1) (x + 161) 48 A.1 h o) → WP (f.bind fun y7 => (bz y7.1).bind fun x8 => some (x8, y7.2)) (fun r => r.1 = tB (o.isSome = true) ∧ CLS r.2 x (o.getD A.1, A.2) ∧ OFF x 311 h r.2) := by
    intro f o hf
    refine wpb hf ?_
    rintro ⟨z, h1⟩ ⟨q1, q2, q3, q4⟩
    dsimp only at q1 q2 q3 q4 ⊢
    subst q1
    refine wb bz_tB ?_
    exact wr ⟨rfl, CLS_st e q4 q3 q2, fun b hb => q4 b (by omega) (by omega)⟩
  have dg : ∀ (p : Nat) (w : Nat), p < 900 → w < 100 → f_X4_digitsAt h (x + 159) (zI (p : Int)) (zI w) = some (zI (dgs l p 0 0 w)) := fun p w hp hw => by
    exact X4_digitsAt_is T (p := p) (by omega) hw
  by_cases c1 : sgn l j = 99
  · refine wt ((zI_inj (by omega)).mpr c1) ?_
    refine wb g.2.2.1 ?_
    refine wb g.2.1 ?_
    refine wb (dg (j + 1) 1 (by omega) (by omega)) ?_
    rw [dgs_1, cmd99 c1]
    have := (DR hb.2 ((j + 1 : Nat) : Int)).1
    exact tr (X3_tryClose_is s (by omega))
  · refine wf (fun d => c1 ((zI_inj (by omega)).mp d)) ?_
    by_cases c2 : sgn l j = 102
    · refine wt ((zI_inj (by omega)).mpr c2) ?_
      refine wb g.2.2.1 ?_
      rw [cmd102 c2]
      exact tr2 (X3_tryFlush_is e.2.1 s H (by omega) (by omega))
    · refine wf (fun d => c2 ((zI_inj (by omega)).mp d)) ?_
      by_cases c3 : sgn l j = 109
      · refine wt ((zI_inj (by omega)).mpr c3) ?_
        refine wb g.2.2.1 ?_
        refine wb g.2.1 ?_
        refine wb (dg (j + 1) 1 (by omega) (by omega)) ?_
        rw [dgs_1, cmd109 c3]
        have := (DR hb.2 ((j + 1 : Nat) : Int)).1
        exact tr2 (X3_tryMerge_is e.2.1 s H (by omega) (by omega) (by omega))
      · refine wf (fun d => c3 ((zI_inj (by omega)).mp d)) ?_
        by_cases c4 : sgn l j = 111
        · refine wt ((zI_inj (by omega)).mpr c4) ?_
          refine wb g.2.2.1 ?_
          rw [cmd111 c4]
          exact tr (X3_tryOpen_is s)
        · refine wf (fun d => c4 ((zI_inj (by omega)).mp d)) ?_
          by_cases c5 : sgn l j = 112
          · refine wt ((zI_inj (by omega)).mpr c5) ?_
            refine wb g.2.2.1 ?_
            refine wb g.2.1 ?_
            refine wb (dg (j + 1) 2 (by omega) (by omega)) ?_
            refine wb g.2.1 ?_
            refine wb (dg (j + 3) 3 (by omega) (by omega)) ?_
            rw [dgs_2, dgs_3, cmd112 c5]
            have h1 := (DR hb.2 ((j + 1 : Nat) : Int)).2.1
            have h2 := (DR hb.2 ((j + 3 : Nat) : Int)).2.2
            exact tr (X3_tryPut_is s (by omega) hS.1 (by omega) (by omega))
          · refine wf (fun d => c5 ((zI_inj (by omega)).mp d)) ?_
            have c6 : sgn l j = 120 := by omega
            refine wt ((zI_inj (by omega)).mpr c6) ?_
            refine wb g.2.2.1 ?_
            refine wb g.2.1 ?_
            refine wb (dg (j + 1) 2 (by omega) (by omega)) ?_
            refine wb g.2.1 ?_
            refine wb (dg (j + 3) 2 (by omega) (by omega)) ?_
            rw [dgs_2, dgs_2, cmd120 c6]
            have h1 := (DR hb.2 ((j + 1 : Nat) : Int)).2.1
            have h2 := (DR hb.2 ((j + 3 : Nat) : Int)).2.1
            exact tr (X3_tryBury_is s (by omega) hS.1 (by omega) (by omega))
theorem load_skip {x : Nat} {A : AB} {h : HP} (e : CLS h x A) {out : Int32} : ∀ (k n j : Nat), j + k ≤ A.2.2.2.length → (∀ i : Nat, j ≤ i → i < j + k → 48 ≤ sgn A.2.2.2 i ∧ sgn A.2.2.2 i ≤ 57) → b_X7_load_59 x (n + k) h out (zI j) = b_X7_load_59 x n h out (zI ((j + k : Nat) : Int)) := by
  have T := CLS_T e
  have hb := TXT_b T
  intro k
  induction k with
  | zero =>
    intro n j hj hd
    rfl
  | succ k ih =>
    intro n j hj hd
    have h1 : b_X7_load_59 x (n + (k + 1)) h out (zI j) = b_X7_load_59 x (n + k) h out (zI ((j + 1 : Nat) : Int)) := by
      show c_X7_load_59 x (b_X7_load_59 x (n + k)) h out (zI j) = _
      unfold c_X7_load_59
      rw [(CLS_g e).2.1, Option.bind_some, X4_length_is T, Option.bind_some, if_neg (fun d => absurd ((zI_le (by omega)).mp d) (by omega)), Option.bind_some, X4_isDigit_is T (j := j) (by omega), Option.bind_some, tB_1 (hd j (by omega) (by omega)), if_neg (by decide), zl1, zI_add]
      rfl
    rw [h1, ih n (j + 1) (by omega) (fun i h2 h3 => hd i (by omega) (by omega)), show j + 1 + k = j + (k + 1) by omega]
theorem C_loadL {x : Nat} {l : List Int} {Mz : Int} (hMz : Mz < 1000000) {h0 : HP} : ∀ (d n : Nat) (h : HP) (j : Nat) (out : Int) (A : AB), j ≤ l.length → l.length < j + d → l.length - j < n → errF l d j = -1 → A.2.2.2 = l → GOK A.1 (Mz - d) → CLS h x A → OFF x 311 h0 h → WP (b_X7_load_59 x n h (zI out) (zI j)) (fun r => r.1 = .inl (zI (runF l d j A.1 out).2) ∧ CLS r.2 x ((runF l d j A.1 out).1, A.2) ∧ OFF x 311 h0 r.2) := by
  intro d
  induction d with
  | zero =>
    intro n h j out A hj hd
    omega
  | succ d ih =>
    intro n h j out A hj hd hn he hT H e o
    subst hT
    have T := CLS_T e
    have hb := TXT_b T
    rw [errF_succ] at he
    rw [runF_succ]
    obtain ⟨n, rfl⟩ : ∃ k, n = k + 1 := ⟨n - 1, by omega⟩
    by_cases c1 : A.2.2.2.length ≤ j
    · rw [if_pos c1]
      unfold b_X7_load_59 c_X7_load_59
      refine wb (CLS_g e).2.1 ?_
      refine wb (X4_length_is T) ?_
      refine wt ((zI_le (by omega)).mpr (by omega)) ?_
      exact wr ⟨rfl, e, o⟩
    · rw [if_neg c1] at he ⊢
      have hbad : bad A.2.2.2 j = -1 := by
        by_cases c2 : bad A.2.2.2 j = -1
        · exact c2
        · rw [if_neg c2] at he
          exact absurd he c2
      rw [if_pos hbad] at he
      obtain ⟨b1, b2⟩ := bad_nxt (by omega) hbad
      have hL := (nd_let _).mp b2
      have hnd := nd_rng (sgn A.2.2.2 j)
      unfold b_X7_load_59 c_X7_load_59
      refine wb (CLS_g e).2.1 ?_
      refine wb (X4_length_is T) ?_
      refine wf (fun d => absurd ((zI_le (by omega)).mp d) (by omega)) ?_
      refine wb (CLS_g e).2.1 ?_
      refine wb (X4_isDigit_is T (j := j) (by omega)) ?_
      rw [tB_0 (by omega)]
      refine wt rfl ?_
      refine wpb (C_text e H (t := 0) rfl (by omega) b2) ?_
      rintro ⟨z, h1⟩ ⟨q1, q2, q3⟩
      dsimp only at q1 q2 q3 ⊢
      subst q1
      have H2 : GOK ((cmdS (sgn A.2.2.2 j) (oneC A.2.2.2 j) (twoC A.2.2.2 j) A.1).getD A.1) (Mz - d) := by
        have := getD_ok H (by omega) (sgn A.2.2.2 j) (oneC A.2.2.2 j) (twoC A.2.2.2 j)
        exact GOK_up this (by omega)
      have hx : nxt A.2.2.2 j = j + 1 + (nd (sgn A.2.2.2 j)).toNat := rfl
      obtain ⟨n, rfl⟩ : ∃ k, n = k + (nd (sgn A.2.2.2 j)).toNat := ⟨n - (nd (sgn A.2.2.2 j)).toNat, by omega⟩
      have sk := fun out => load_skip q2 (out := out) (nd (sgn A.2.2.2 j)).toNat n (j + 1) (by dsimp only; omega) (fun i h2 h3 => by
        have h4 : fst1 (fun x => okB A.2.2.2 j x = false) (j + 1) (nd (sgn A.2.2.2 j)).toNat = -1 := by
          unfold bad at hbad
          rw [if_neg b2] at hbad
          exact hbad
        exact okB_dig (Bnf (fst1_none h4 i h2 h3)))
      have h9 := fun out' => ih n h1 (nxt A.2.2.2 j) out' ((cmdS (sgn A.2.2.2 j) (oneC A.2.2.2 j) (twoC A.2.2.2 j) A.1).getD A.1, A.2) b1 (by omega) (by omega) he rfl H2 q2 (OFF_trans o q3)
      rw [zl1, zI_add, zI_add]
      by_cases c3 : (cmdS (sgn A.2.2.2 j) (oneC A.2.2.2 j) (twoC A.2.2.2 j) A.1).isSome = true
      · rw [tB_1 c3, if_pos c3]
        refine wf (by decide) ?_
        have := sk (zI out)
        rw [← cast1, this]
        exact h9 out
      · rw [tB_0 c3, if_neg c3]
        refine wt rfl ?_
        have := sk (zI (out + 1))
        rw [← cast1, this]
        exact h9 (out + 1)
def xLoad (A : AB) : Int × Int × AB := if errP A.2.2.2 ≠ -1 then (1, 0, A) else (0, (runF A.2.2.2 200 1 emp 0).2, (runF A.2.2.2 200 1 emp 0).1, [], (none, none), A.2.2.2)
theorem errP_1 {l : List Int} (h : errP l = -1) : errF l 200 1 = -1 ∧ 1 ≤ l.length := by
  unfold errP at h
  by_cases c : sgn l 0 = 71
  · rw [if_pos c] at h
    refine ⟨h, ?_⟩
    by_cases c2 : l.length = 0
    · rw [sgn_out (by omega)] at c
      omega
    · omega
  · rw [if_neg c] at h
    omega
theorem errP_rng (l : List Int) : -1 ≤ errP l ∧ errP l ≤ 1000 + l.length := by
  have h1 : ∀ d A, -1 ≤ errF l d A ∧ errF l d A ≤ 1000 + l.length := by
    intro d
    induction d with
    | zero =>
      intro A
      show -1 ≤ (-1 : Int) ∧ (-1 : Int) ≤ _
      omega
    | succ d ih =>
      intro A
      rw [errF_succ]
      split
      · omega
      · have := bad_rng (l := l) (A := A) (by omega)
        split
        · exact ih _
        · omega
  unfold errP
  split
  · exact h1 _ _
  · omega
theorem C_load {h : HP} {x : Nat} {A : AB} (e : CLS h x A) : WP (f_X7_load h x) (CLR7 x (xLoad A).2.2 [ISE] (xLoad A).1 (xLoad A).2.1 h) := by
  have g := CLS_g e
  have hb := TXT_b (CLS_T e)
  unfold f_X7_load b_X7_load_0 xLoad
  rw [show (-1 : Int32) = zI (-1) by decide]
  refine wb g.1 ?_
  refine wb g.2.1 ?_
  refine wb (X4_firstError_is (CLS_T e)) ?_
  by_cases c : errP A.2.2.2 = -1
  · rw [if_neg (show ¬ (errP A.2.2.2 ≠ -1) by omega)]
    refine wt ((zI_inj (by omega)).mpr c) ?_
    refine wb g.2.2.1 ?_
    refine wpb (X3_empty_is (CLS_S e)) ?_
    rintro h1 ⟨q1, q2⟩
    have e1 := CLS_st e (FR_c q2 (by omega)) (CLN_off e.2.1 q2 (by omega)) q1
    refine wb (CLS_g e1).2.2.2.2.1 ?_
    refine wpb (X1_forgetAll_is e1.2.2.2.2.2.1) ?_
    rintro h2 ⟨q3, q4⟩
    have e2 := CLS_hi e1 (OFF_wide q4 (by omega)) q3
    obtain ⟨hl, h1l⟩ := errP_1 c
    have hF : FU = 4093 + 1 + 1 + 1 := rfl
    rw [hF]
    unfold b_X7_load_37 c_X7_load_37
    refine wf (by decide) ?_
    refine wb (CLS_g e2).2.2.2.2.2.2.1 ?_
    obtain ⟨G, fl, r0, r1, r2, r3, ⟨T, r4, r5⟩, U, r6, r7⟩ := e2.2.2.2.2.2.2.1
    rw [show wZ h2 (x + 308) 0 0 = wZ h2 (x + 308) (zI 0) (tB (false = true)) from rfl]
    refine wb (wZ_e r2 (by omega) false) ?_
    have o3 : OFF (x + 308) 1 h2 (hup h2 (x + 308) (.inl (1, 2, .inl (upd fl (0 : Int).toNat (tB (false = true)))))) := OFF_up (OFF_refl _ _ _) (by omega)
    have f3 := hup_same h2 (x + 308) (.inl (1, 2, .inl (upd fl (0 : Int).toNat (tB (false = true)))))
    generalize hup h2 (x + 308) _ = h3 at *
    unfold b_X7_load_37 c_X7_load_37
    refine wf (by decide) ?_
    refine wb (gR_e ((o3 _ (by omega)).trans e2.1) rfl) ?_
    rw [show wZ h3 (x + 308) (0 + 1) 0 = wZ h3 (x + 308) (zI 1) (tB (false = true)) from rfl]
    refine wb (wZ_e f3 (by omega) false) ?_
    have o4 : OFF (x + 308) 1 h3 (hup h3 (x + 308) (.inl (1, 2, .inl (upd (upd fl (0 : Int).toNat (tB (false = true))) (1 : Int).toNat (tB (false = true)))))) := OFF_up (OFF_refl _ _ _) (by omega)
    have f4 := hup_same h3 (x + 308) (.inl (1, 2, .inl (upd (upd fl (0 : Int).toNat (tB (false = true))) (1 : Int).toNat (tB (false = true)))))
    generalize hup h3 (x + 308) _ = h4 at *
    unfold b_X7_load_37 c_X7_load_37
    refine wt (by decide) ?_
    have o34 := OFF_trans o3 o4
    have e4 : CLS h4 x (emp, [], (none, none), A.2.2.2) := CLS_sl e2 (OFF_wide o34 (by omega)) ⟨G, _, (o34 _ (by omega)).trans r0, r1, f4, ⟨(upd_ne (by decide)).trans (upd_eq (by decide)), upd_eq (by decide)⟩, ⟨T, STO_off r4 o34 (by omega), fun V hV => absurd hV (by simp)⟩, U, STO_off r6 o34 (by omega), fun V hV => absurd hV (by simp)⟩
    have H : GOK emp ((200 : Int) - ((200 : Nat) : Int)) := emp_ok
    have h9 := C_loadL (x := x) (l := A.2.2.2) (Mz := 200) (by omega) (h0 := h) 200 FU h4 1 0 (emp, [], (none, none), A.2.2.2) h1l (by omega) (by unfold FU; omega) hl rfl H e4 (OFF_trans (OFF_wide q2 (by omega)) (OFF_trans (OFF_wide q4 (by omega)) (OFF_wide o34 (by omega))))
    exact h9
  · rw [if_pos c]
    have hr := errP_rng A.2.2.2
    refine wf (fun d => c ((zI_inj (by omega)).mp d)) ?_
    exact wr ⟨rfl, e, OFF_refl _ _ _⟩
/-- the row of the state is emptied -/
theorem zero_loop {m : Nat} {v : Nat → Int32} {l : List Int} {z : Nat → Int32} {h0 : HP} (hl : errP l = -1) {sl : Nat → Int32} {hh : Nat → Int32} : ∀ (r n : Nat) (h : HP) (g : Nat → Int32) (j : Nat), r < n → j + r = 204 → MOB h m v → ARR h (m + 1) 204 g → (∀ i : Nat, i < j → g i = 0) → RTX h m v l → ALO h m → h (m + 5) = some (.inl (1, 2, .inl z)) → OFF m 9 h0 h → (∀ b, b ≠ m + 1 → h b = h0 b) → WP (b_X8_load_29 m n h (zI j)) (fun r' => r'.1 = zI (runF l 200 1 emp 0).2 ∧ (∃ v', MOB r'.2 m v' ∧ (v' 4 = zI 0) ∧ ∀ i : Nat, i < 10 → i ≠ 4 → v' i = v i) ∧ REF r'.2 m (runF l 200 1 emp 0).1 ∧ ALO r'.2 m ∧ (∃ z', r'.2 (m + 5) = some (.inl (1, 2, .inl z')) ∧ z' 0 = 0 ∧ z' 1 = 0) ∧ OFF m 9 h0 r'.2 ∧ ∀ b, b = m + 2 ∨ b = m + 3 ∨ b = m + 4 ∨ b = m + 6 → r'.2 b = h0 b) := by
  intro r
  induction r with
  | zero =>
    intro n h g j hn hj e0 e1 hg t al e5 o ho
    obtain ⟨n, rfl⟩ : ∃ k, n = k + 1 := ⟨n - 1, by omega⟩
    unfold b_X8_load_29 c_X8_load_29
    rw [show (204 : Int32) = zI 204 by decide]
    refine wt ((zI_le (by omega)).mpr (by omega)) ?_
    rw [zl0]
    refine wpb (pI_M e0 (by omega)) ?_
    rintro h2 ⟨q4, q5⟩
    refine wb (gR_e q4 rfl) ?_
    rw [show wZ h2 (m + 5) (zI 0) (zI 0) = wZ h2 (m + 5) (zI 0) (tB (false = true)) from rfl]
    refine wb (wZ_e ((q5 _ (by omega)).trans e5) (by omega) false) ?_
    have o3 : OFF (m + 5) 1 h2 (hup h2 (m + 5) (.inl (1, 2, .inl (upd z (0 : Int).toNat (tB (false = true)))))) := OFF_up (OFF_refl _ _ _) (by omega)
    have f3 := hup_same h2 (m + 5) (.inl (1, 2, .inl (upd z (0 : Int).toNat (tB (false = true)))))
    generalize hup h2 (m + 5) _ = h3 at *
    refine wb (gR_e ((o3 _ (by omega)).trans q4) rfl) ?_
    rw [show wZ h3 (m + 5) 1 (zI 0) = wZ h3 (m + 5) (zI 1) (tB (false = true)) from rfl]
    refine wb (wZ_e f3 (by omega) false) ?_
    have o4 : OFF (m + 5) 1 h3 (hup h3 (m + 5) (.inl (1, 2, .inl (upd (upd z (0 : Int).toNat (tB (false = true))) (1 : Int).toNat (tB (false = true)))))) := OFF_up (OFF_refl _ _ _) (by omega)
    have f4 := hup_same h3 (m + 5) (.inl (1, 2, .inl (upd (upd z (0 : Int).toNat (tB (false = true))) (1 : Int).toNat (tB (false = true)))))
    generalize hup h3 (m + 5) _ = h4 at *
    have o34 := OFF_trans o3 o4
    have k4 : MOB h4 m (upd v 4 (zI 0)) := (o34 _ (by omega)).trans q4
    have hz : ∀ i : Nat, i < 204 → g i = 0 := fun i hi => hg i (by omega)
    have er : REF h4 m emp := by
      refine ⟨_, g, k4, (o34 _ (by omega)).trans ((q5 _ (by omega)).trans e1), ⟨by decide, by decide, by decide⟩, hz 0 (by omega), fun i hi => absurd hi (Nat.not_lt_zero i), hz 6 (by omega), hz 7 (by omega), fun i hi => absurd hi (Nat.not_lt_zero i), hz 10 (by omega), hz 11 (by omega), fun i hi => absurd hi (Nat.not_lt_zero i)⟩
    have k8 : RTX h4 m (upd v 4 (zI 0)) l := RTX_mv t ((o34 _ (by omega)).trans (q5 _ (by omega))) (upd_ne (by omega))
    have ka : ALO h4 m := ALO_off (ALO_off al q5 (by omega)) o34 (by omega)
    refine wpb (X8_goT_is k4 k8 hl er ka emp_ok (by omega)) ?_
    rintro ⟨y, h5⟩ ⟨g1, ⟨v', g2, g3⟩, g4, g5, g6⟩
    dsimp only at g1 g2 g3 g4 g5 g6 ⊢
    refine wr ⟨g1, ⟨v', g2, (g3 4 (by omega)).trans (upd_eq rfl), fun i hi h4 => (g3 i hi).trans (upd_ne (by omega))⟩, g4, g5, ⟨_, (g6 _ (by omega) (by omega) (by omega) (by omega)).trans f4, (upd_ne (by decide)).trans ((upd_eq (by decide)).trans (tB_0 (by decide))), (upd_eq (by decide)).trans (tB_0 (by decide))⟩, OFF_trans o (OFF_trans (OFF_wide q5 (by omega)) (OFF_trans (OFF_wide o34 (by omega)) (OF4_f g6))), fun b hb => (g6 _ (by omega) (by omega) (by omega) (by omega)).trans ((o34 _ (by omega)).trans ((q5 _ (by omega)).trans (ho b (by omega))))⟩
  | succ r ih =>
    intro n h g j hn hj e0 e1 hg t al e5 o ho
    obtain ⟨n, rfl⟩ : ∃ k, n = k + 1 := ⟨n - 1, by omega⟩
    unfold b_X8_load_29 c_X8_load_29
    simp only [show (204 : Int32) = zI 204 by decide, zl1, zI_add]
    refine wf (fun d => absurd ((zI_le (by omega)).mp d) (by omega)) ?_
    refine wb (gR_e e0 rfl) ?_
    refine wb (wI_e e1 (by omega)) ?_
    have h1 := ih n (hup h (m + 1) (.inl (0, 204, .inl (upd g (j : Int).toNat 0)))) (upd g (j : Int).toNat 0) (j + 1) (by omega) (by omega) ((hup_ne _ _ (by omega)).trans e0) (ARR_eq _ _ _ _) (fun i hi => by
      by_cases c : i = j
      · rw [upd_eq (by omega)]
      · rw [upd_ne (by omega), hg i (by omega)]) (RTX_mv t (hup_ne _ _ (by omega)) rfl) (ALO_off al (OFF_up (OFF_refl (m + 1) 1 h) (by omega)) (by omega)) ((hup_ne _ _ (by omega)).trans e5) (OFF_up o (by omega)) (fun b hb => (hup_ne _ _ hb).trans (ho b hb))
    rw [cast1] at h1
    exact h1
theorem R_load {h : HP} {m : Nat} {v : Nat → Int32} {A : AB} (e : RFV h m v A) : WP (f_X8_load h m) (RFR m (xLoad A).2.2 (xLoad A).1 (xLoad A).2.1 h) := by
  unfold f_X8_load b_X8_load_0 b_X8_load_19 xLoad
  refine wb (kO_e e.1) ?_
  refine wpb (X8_goF_is e.1 e.2.2.2.2.2.2) ?_
  rintro ⟨y, h1⟩ ⟨v', q1, q2, q3, q4, q5⟩
  dsimp only at q1 q2 q3 q4 q5 ⊢
  refine wb (gI_e q1 rfl) ?_
  have e1 : RFV h1 m v' A := RFV_0 e q3 q1 (q2 4 (by omega)) (q2 8 (by omega))
  by_cases c : errP A.2.2.2 = -1
  · rw [if_neg (show ¬ (errP A.2.2.2 ≠ -1) by omega), q4 c]
    refine wt rfl ?_
    rw [zl0]
    refine wpb (X8_holds_is e1 (c := 0) (by omega)) ?_
    rintro ⟨z, h2⟩ ⟨r1, r2, r3⟩
    dsimp only at r1 r2 r3 ⊢
    subst r1
    rw [tB_1 rfl]
    refine wf (by decide) ?_
    have r2' := r2
    obtain ⟨e0, ⟨w, f, s0, s1, s2⟩, al, ⟨ga, e4⟩, ⟨w2, f2, u0, u1, u2⟩, ⟨sl, z, e6, e7, e8⟩, e9⟩ := r2
    have hl := zero_loop (l := A.2.2.2) (h0 := h2) c 204 FU h2 f 0 (by unfold FU; omega) (by omega) e0 s1 (fun i hi => absurd hi (by omega)) e9 al e7 (OFF_refl _ _ _) (fun b _ => rfl) (sl := sl) (hh := sl)
    refine wm hl ?_
    rintro ⟨y, h3⟩ ⟨p1, ⟨v3, p2, p3, p4⟩, p5, p6, ⟨z3, p7, p8, p9⟩, p10, p11⟩
    refine ⟨⟨v3, ⟨p2, p5, p6, ⟨ga, (p11 _ (by omega)).trans e4⟩, ⟨v3, f2, p2, (p11 _ (by omega)).trans u1, p3, by rw [List.length_nil]; omega, fun i hi => absurd hi (Nat.not_lt_zero i)⟩, ⟨sl, z3, (p11 _ (by omega)).trans e6, p7, p8.trans (tB_0 (by simp)).symm, p9.trans (tB_0 (by simp)).symm, fun U hU => absurd hU (by simp), fun U hU => absurd hU (by simp)⟩, RTX_mv e9 (p11 _ (by omega)) (p4 8 (by omega) (by omega))⟩, (p4 0 (by omega) (by omega)).trans (upd_eq rfl)⟩, fun _ => p1, OFF_trans (OFF_wide q3 (by omega)) (OFF_trans (OFF_wide r3 (by omega)) p10)⟩
  · rw [if_pos c, (q5 c).1]
    refine wf (by decide) ?_
    exact act_no e1 (OFF_wide q3 (by omega)) (c := 1) (by omega) rfl
