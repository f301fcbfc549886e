/-! undo, the slots -/
def xUndo (A : AB) : Int × Int × AB := match A.2.1.getLast? with
  | none => (1, 0, A)
  | some T => (0, A.2.1.length - 1, T, A.2.1.dropLast, A.2.2)
theorem xUndo_0 {A : AB} (h : A.2.1.length = 0) : xUndo A = (1, 0, A) := by
  unfold xUndo
  rw [List.length_eq_zero_iff.mp h]
  rfl
theorem xUndo_1 {A : AB} (h : 0 < A.2.1.length) : xUndo A = (0, (A.2.1.length : Int) - 1, A.2.1[A.2.1.length - 1], A.2.1.dropLast, A.2.2) := by
  unfold xUndo
  rw [List.getLast?_eq_getElem?, List.getElem?_eq_getElem (by omega)]
theorem C_undo {h : HP} {x : Nat} {A : AB} (e : CLS h x A) {M : Int} (H : AOK A M) : WP (f_X7_undo h x) (CLR7 x (xUndo A).2.2 [ISE] (xUndo A).1 (xUndo A).2.1 h) := by
  have g := CLS_g e
  unfold f_X7_undo b_X7_undo_0
  refine wb g.1 ?_
  refine wb g.2.2.2.2.1 ?_
  refine wb (X1_size_is e.2.2.2.2.2.1) ?_
  rw [zl0]
  have hl14 : A.2.1.length ≤ 14 := by
    obtain ⟨o, G, e0, e1, e2, e3, e4, r⟩ := e.2.2.2.2.2.1
    exact e4
  by_cases c : A.2.1.length = 0
  · rw [xUndo_0 c]
    refine wt ((zI_inj (by omega)).mpr (by omega)) ?_
    exact wr ⟨rfl, e, OFF_refl _ _ _⟩
  · rw [xUndo_1 (by omega)]
    refine wf (fun d => c (by have := (zI_inj (by omega)).mp d; omega)) ?_
    refine wb g.2.2.2.2.1 ?_
    refine wb g.2.2.1 ?_
    have hT := (H.2.1 _ (List.getElem_mem (l := A.2.1) (n := A.2.1.length - 1) (by omega))).2
    unfold SML at hT
    refine wpb (X1_takeBack_is e.2.2.2.2.2.1 (by omega) (CLS_S e) (by omega) (by omega)) ?_
    rintro h1 ⟨q1, q2, q3⟩
    have e1 : CLS h1 x (A.2.1[A.2.1.length - 1], A.2.1.dropLast, A.2.2) := by
      obtain ⟨e0, e1, e2, e3, ⟨T, e4⟩, e5, e6, f, e7⟩ := e
      exact ⟨(q3 _ (by omega) (by omega)).trans e0, CLN_mv e1 fun b h1 h2 => q3 b (by omega) (by omega), TXT_mv e2 fun b h1 h2 => q3 b (by omega) (by omega), q2, ⟨T, STO_mv e4 fun b h1 h2 => q3 b (by omega) (by omega)⟩, q1, SLC_mv e6 fun b h1 h2 => q3 b (by omega) (by omega), f, VIEW_mv e7 fun b h1 h2 => q3 b (by omega) (by omega)⟩
    refine wb (CLS_g e1).2.2.2.2.1 ?_
    refine wb (X1_size_is q1) ?_
    refine wr ⟨?_, e1, fun b hb => q3 b (by omega) (by omega)⟩
    dsimp only
    rw [List.length_dropLast, EXC_0 _ rfl]
    exact congrArg Sum.inl (congrArg zI (by omega))
/-- a row is copied into the reference's row -/
theorem undo_loop {m : Nat} {v : Nat → Int32} {f : Nat → Int32} {s : Nat} (hs : s < 14) (hv : v 4 = zI s) {h0 : HP} : ∀ (r n : Nat) (h : HP) (g : Nat → Int32) (j : Nat), r < n → j + r = 204 → MOB h m v → ARR h (m + 3) 2856 f → ARR h (m + 1) 204 g → OFF (m + 1) 1 h0 h → (∀ i : Nat, i < j → g i = f (204 * s + i)) → WP (b_X8_undo_33 m n h (zI j)) (fun r' => r'.1 = zI s ∧ (∃ g', ARR r'.2 (m + 1) 204 g' ∧ ∀ i : Nat, i < 204 → g' i = f (204 * s + i)) ∧ OFF (m + 1) 1 h0 r'.2) := by
  intro r
  induction r with
  | zero =>
    intro n h g j hn hj e0 e1 e2 o hg
    obtain ⟨n, rfl⟩ : ∃ k, n = k + 1 := ⟨n - 1, by omega⟩
    unfold b_X8_undo_33 c_X8_undo_33
    rw [show (204 : Int32) = zI 204 by decide]
    refine wt ((zI_le (by omega)).mpr (by omega)) ?_
    refine wb (gI_e e0 rfl) ?_
    exact wr ⟨hv, ⟨g, e2, fun i hi => hg i (by omega)⟩, o⟩
  | succ r ih =>
    intro n h g j hn hj e0 e1 e2 o hg
    obtain ⟨n, rfl⟩ : ∃ k, n = k + 1 := ⟨n - 1, by omega⟩
    unfold b_X8_undo_33 c_X8_undo_33
    simp only [show (204 : Int32) = zI 204 by decide, zl1, zI_add]
    refine wf (fun d => absurd ((zI_le (by omega)).mp d) (by omega)) ?_
    refine wb (gR_e e0 rfl) ?_
    refine wb (gR_e e0 rfl) ?_
    refine wb (gI_e e0 rfl) ?_
    rw [hv, zI_mul, zI_add]
    refine wb (aI_e e1 (by omega)) ?_
    refine wb (wI_e e2 (by omega)) ?_
    have h1 := ih n (hup h (m + 1) (.inl (0, 204, .inl (upd g (j : Int).toNat (f (204 * (s : Int) + j).toNat))))) (upd g (j : Int).toNat (f (204 * (s : Int) + j).toNat)) (j + 1) (by omega) (by omega) ((hup_ne _ _ (by omega)).trans e0) (ARR_ne e1 (by omega)) (ARR_eq _ _ _ _) (OFF_up o (by omega)) (fun i hi => by
      by_cases c : i = j
      · rw [upd_eq (by omega), c]
        congr 1
      · rw [upd_ne (by omega), hg i (by omega)])
    rw [cast1] at h1
    exact h1
theorem MOB_k {h : HP} {m : Nat} {v w : Nat → Int32} (e : MOB h m v) (k : MOB h m w) : v 8 = w 8 := by
  have h2 : (mrow m v)[8]? = (mrow m w)[8]? := by rw [MOB_row e k]
  exact Value.int.inj (Option.some.inj h2)
theorem R_undo {h : HP} {m : Nat} {v : Nat → Int32} {A : AB} (e : RFV h m v A) : WP (f_X8_undo h m) (RFR m (xUndo A).2.2 (xUndo A).1 (xUndo A).2.1 h) := by
  obtain ⟨v', g, k0, k1, k2, k3, k4⟩ := e.2.2.2.2.1
  have h4 : v 4 = zI A.2.1.length := (MOB_4 e.1 k0).trans k2
  unfold f_X8_undo b_X8_undo_0 b_X8_undo_13
  refine wb (kO_e e.1) ?_
  refine wb (gI_e e.1 rfl) ?_
  rw [h4, zl0]
  by_cases c : A.2.1.length = 0
  · rw [xUndo_0 c]
    refine wt ((zI_le (by omega)).mpr (by omega)) ?_
    exact act_no e (OFF_refl _ _ _) (c := 1) (by omega) rfl
  · rw [xUndo_1 (by omega)]
    refine wf (fun d => c (by have := (zI_le (by omega)).mp d; omega)) ?_
    refine wpb (X8_holds_is e (c := 0) (by omega)) ?_
    rintro ⟨z, h1⟩ ⟨q1, q2, q3⟩
    dsimp only at q1 q2 q3 ⊢
    subst q1
    rw [tB_1 rfl]
    refine wf (by decide) ?_
    refine wb (gI_e q2.1 rfl) ?_
    rw [upd_ne (show (4 : Nat) ≠ 0 by omega), h4, zl1, zI_sub]
    refine wpb (pI_M q2.1 (by omega)) ?_
    rintro h2 ⟨q4, q5⟩
    obtain ⟨f, -, r1, -⟩ := REF_MOB q2.2.1 q2.1
    have o2 := OFF_trans q3 q5
    have hl := undo_loop (m := m) (s := A.2.1.length - 1) (by omega) (v := upd (upd v 0 (zI 0)) 4 (zI ((A.2.1.length : Int) - 1))) (by rw [upd_eq rfl]; exact congrArg zI (by omega)) (h0 := h2) 204 FU h2 f 0 (by unfold FU; omega) (by omega) q4 ((o2 _ (by omega)).trans k1) ((q5 _ (by omega)).trans r1) (OFF_refl _ _ _) (fun i hi => absurd hi (by omega))
    refine wm hl ?_
    rintro ⟨y, h3⟩ ⟨t1, ⟨g', t2, t3⟩, t4⟩
    have hm : MOB h3 m (upd (upd v 0 (zI 0)) 4 (zI ((A.2.1.length : Int) - 1))) := (t4 _ (by omega)).trans q4
    obtain ⟨e1, e2, ⟨⟨ga, e30⟩, d', D, e31, e32⟩, ⟨ga2, e4⟩, e5, ⟨sl, z, e6, e7, e8⟩, e9⟩ := e
    have ks : ∀ b, m < b → b < m + 9 → b ≠ m + 1 → h3 b = h b := fun b h1 h2 h3 => (t4 b (by omega)).trans (o2 b (by omega))
    refine ⟨⟨_, ⟨hm, ⟨_, g', hm, t2, RW_ext (k4 (A.2.1.length - 1) (by omega)) t3⟩, ⟨⟨ga, (ks _ (by omega) (by omega) (by omega)).trans e30⟩, d', D, (ks _ (by omega) (by omega) (by omega)).trans e31, e32⟩, ⟨ga2, (ks _ (by omega) (by omega) (by omega)).trans e4⟩, ⟨_, g, hm, (ks _ (by omega) (by omega) (by omega)).trans k1, ?_, ?_, fun i hi => ?_⟩, ⟨sl, z, (ks _ (by omega) (by omega) (by omega)).trans e6, (ks _ (by omega) (by omega) (by omega)).trans e7, e8⟩, RTX_mv e9 (ks _ (by omega) (by omega) (by omega)) ?_⟩, ?_⟩, fun _ => ?_, fun b hb => ?_⟩
    · rw [upd_eq rfl, List.length_dropLast]
      exact congrArg zI (by omega)
    · rw [List.length_dropLast]
      omega
    · rw [List.length_dropLast] at hi
      rw [List.getElem_dropLast]
      exact k4 i (by omega)
    · rw [upd_ne (by omega), upd_ne (by omega)]
    · rw [upd_ne (by omega), upd_eq rfl]
    · dsimp only at t1 ⊢
      rw [t1]
      exact congrArg zI (by omega)
    · exact (t4 b (by omega)).trans (o2 b (by omega))
/-- a state into a slot -/
def sSet (s : Option SG × Option SG) (i : Int) (T : SG) : Option SG × Option SG := if i = 0 then (some T, s.2) else (s.1, some T)
def sGet (s : Option SG × Option SG) (i : Int) : Option SG := if i = 0 then s.1 else s.2
def xSave (A : AB) (i : Int) : Int × Int × AB := if ¬ (0 ≤ i ∧ i ≤ 1) then (1, 0, A) else (0, A.1.1.length, A.1, A.2.1, sSet A.2.2.1 i A.1, A.2.2.2)
theorem C_save {h : HP} {x : Nat} {A : AB} (e : CLS h x A) {M : Int} (H : GOK A.1 M) {i : Int} (hi : -2147483648 ≤ i ∧ i < 2147483648) : WP (f_X7_save h x (zI i)) (CLR7 x (xSave A i).2.2 [IOB] (xSave A i).1 (xSave A i).2.1 h) := by
  have g := CLS_g e
  have s := CLS_S e
  have hS := H.2
  unfold SML at hS
  unfold f_X7_save b_X7_save_0 b_X7_save_9 xSave
  simp only [zl0, show (2 : Int32) = zI 2 by decide]
  refine wb g.1 ?_
  by_cases c1 : i < 0
  · refine wt ((zI_lt (by omega)).mpr c1) ?_
    rw [if_pos (show ¬ (0 ≤ i ∧ i ≤ 1) by omega)]
    exact wr ⟨rfl, e, OFF_refl _ _ _⟩
  · refine wf (fun d => c1 ((zI_lt (by omega)).mp d)) ?_
    by_cases c2 : i < 2
    · refine wt ((zI_lt (by omega)).mpr c2) ?_
      rw [if_neg (show ¬ ¬ (0 ≤ i ∧ i ≤ 1) by omega)]
      obtain ⟨G, fl, e0, ⟨e1, e2⟩, e3, ⟨e4, e5⟩, ⟨T, e6, e7⟩, U, e8, e9⟩ := e.2.2.2.2.2.2.1
      have one : ∀ (j : Nat), (j = 0 ∨ j = 1) → i = (j : Int) → WP ((gR 7 4 h x).bind fun x3 => (aR 4 h x3 (zI i)).bind fun x4 => (gR 7 1 h x).bind fun x5 => (f_X3_become h x4 x5).bind fun y6 => (gR 7 5 y6 x).bind fun x7 => (wZ y6 x7 (zI i) 1).bind fun h8 => (gR 7 1 h8 x).bind fun x9 => (f_X3_size h8 x9).bind fun y10 => some ((Sum.inl y10 : Int32 ⊕ String), h8)) (CLR7 x (A.1, A.2.1, sSet A.2.2.1 i A.1, A.2.2.2) [IOB] 0 A.1.1.length h) := by
        intro j hj hij
        refine wb g.2.2.2.2.2.1 ?_
        have hG : G i.toNat = some (x + 292 + 8 * j) := by
          rcases hj with rfl | rfl
          · rw [hij]
            exact e1
          · rw [hij]
            exact e2
        refine wb (aR_e e0 (by omega) hG) ?_
        refine wb g.2.2.1 ?_
        have hst : ∃ T, STO h (x + 1) (x + 292 + 8 * j) 48 T := by
          rcases hj with rfl | rfl
          · exact ⟨T, e6⟩
          · exact ⟨U, e8⟩
        obtain ⟨T', hT'⟩ := hst
        refine wpb (X3_become_is hT' s (by omega) hS.1) ?_
        rintro h1 ⟨q1, q2⟩
        have k3 : gR 7 5 h1 x = some (x + 308) := gR_e ((q2 _ (by omega)).trans e.1) rfl
        refine wb k3 ?_
        rw [← tB_1 (p := true = true) rfl]
        refine wb (wZ_e ((q2 _ (by omega)).trans e3) (by omega) true) ?_
        have q2' : OFF (x + 292) 16 h h1 := OFF_wide q2 (by omega)
        have o2 : OFF (x + 308) 1 h1 (hup h1 (x + 308) (.inl (1, 2, .inl (upd fl i.toNat (tB (true = true)))))) := OFF_up (OFF_refl _ _ _) (by omega)
        have f2 := hup_same h1 (x + 308) (.inl (1, 2, .inl (upd fl i.toNat (tB (true = true)))))
        generalize hup h1 (x + 308) _ = h2 at *
        have os : OFF (x + 291) 18 h h2 := OFF_trans (OFF_wide q2 (by omega)) (OFF_wide o2 (by omega))
        have hsl : SLC h2 x (sSet A.2.2.1 i A.1) := by
          have hno : ∀ b, b < x + 292 ∧ x + 291 ≤ b → h2 b = h b := fun b hb => (o2 b (by omega)).trans (q2' b (by omega))
          rcases hj with rfl | rfl
          · subst hij
            refine ⟨G, _, (hno _ (by omega)).trans e0, ⟨e1, e2⟩, f2, ⟨?_, ?_⟩, ⟨_, STO_off q1 o2 (by omega), ?_⟩, U, STO_off (STO_off e8 q2 (by omega)) o2 (by omega), e9⟩
            · rw [upd_eq (by omega)]
              rfl
            · rw [upd_ne (by omega)]
              exact e5
            · intro V hV
              exact Option.some.inj hV
          · subst hij
            refine ⟨G, _, (hno _ (by omega)).trans e0, ⟨e1, e2⟩, f2, ⟨?_, ?_⟩, ⟨T, STO_off (STO_off e6 q2 (by omega)) o2 (by omega), e7⟩, _, STO_off q1 o2 (by omega), ?_⟩
            · rw [upd_ne (by omega)]
              exact e4
            · rw [upd_eq (by omega)]
              rfl
            · intro V hV
              exact Option.some.inj hV
        have e10 := CLS_sl e os hsl
        refine wb (CLS_g e10).2.2.1 ?_
        refine wb (X3_size_is (CLS_S e10)) ?_
        exact wr ⟨rfl, e10, OFF_wide os (by omega)⟩
      by_cases c3 : i = 0
      · exact one 0 (Or.inl rfl) c3
      · exact one 1 (Or.inr rfl) (by omega)
    · refine wf (fun d => c2 ((zI_lt (by omega)).mp d)) ?_
      rw [if_pos (show ¬ (0 ≤ i ∧ i ≤ 1) by omega)]
      exact wr ⟨rfl, e, OFF_refl _ _ _⟩
/-- the row of the state is copied into a slot -/
theorem save_loop {m : Nat} {v : Nat → Int32} {f : Nat → Int32} {s : Nat} (hs : s < 2) {h0 : HP} {S : SG} (hR : RW f S) {z : Nat → Int32} {v' : Nat → Int32} {sl0 : Nat → Int32} : ∀ (r n : Nat) (h : HP) (g : Nat → Int32) (j : Nat), r < n → j + r = 204 → MOB h m v → ARR h (m + 1) 204 f → ARR h (m + 4) 408 g → h (m + 5) = some (.inl (1, 2, .inl z)) → OFF (m + 4) 2 h0 h → (∀ i : Nat, i < j → g (204 * s + i) = f i) → (∀ i : Nat, (i < 204 * s ∨ 204 * s + 204 ≤ i) → g i = sl0 i) → WP (b_X8_save_25 m (zI s) n h (zI j)) (fun r' => r'.1 = zI S.1.length ∧ (∃ g', ARR r'.2 (m + 4) 408 g' ∧ (∀ i : Nat, i < 204 → g' (204 * s + i) = f i) ∧ ∀ i : Nat, (i < 204 * s ∨ 204 * s + 204 ≤ i) → g' i = sl0 i) ∧ r'.2 (m + 5) = some (.inl (1, 2, .inl (upd z s 1))) ∧ OFF (m + 4) 2 h0 r'.2) := by
  intro r
  induction r with
  | zero =>
    intro n h g j hn hj e0 e1 e2 e3 o hg ho
    obtain ⟨n, rfl⟩ : ∃ k, n = k + 1 := ⟨n - 1, by omega⟩
    unfold b_X8_save_25 c_X8_save_25
    rw [show (204 : Int32) = zI 204 by decide]
    refine wt ((zI_le (by omega)).mpr (by omega)) ?_
    refine wb (gR_e e0 rfl) ?_
    rw [← tB_1 (p := true = true) rfl]
    refine wb (wZ_e e3 (by omega) true) ?_
    have o2 : OFF (m + 5) 1 h (hup h (m + 5) (.inl (1, 2, .inl (upd z (s : Int).toNat (tB (true = true)))))) := OFF_up (OFF_refl _ _ _) (by omega)
    have f2 := hup_same h (m + 5) (.inl (1, 2, .inl (upd z (s : Int).toNat (tB (true = true)))))
    generalize hup h (m + 5) _ = h2 at *
    have er : REF h2 m S := ⟨v, f, (o2 _ (by omega)).trans e0, (o2 _ (by omega)).trans e1, hR⟩
    refine wb (X8_all_is er) ?_
    exact wr ⟨rfl, ⟨g, (o2 _ (by omega)).trans e2, fun i hi => hg i (by omega), ho⟩, f2, OFF_trans o (OFF_wide o2 (by omega))⟩
  | succ r ih =>
    intro n h g j hn hj e0 e1 e2 e3 o hg ho
    obtain ⟨n, rfl⟩ : ∃ k, n = k + 1 := ⟨n - 1, by omega⟩
    unfold b_X8_save_25 c_X8_save_25
    simp only [show (204 : Int32) = zI 204 by decide, zl1, zI_add, zI_mul]
    refine wf (fun d => absurd ((zI_le (by omega)).mp d) (by omega)) ?_
    refine wb (gR_e e0 rfl) ?_
    refine wb (gR_e e0 rfl) ?_
    refine wb (aI_e e1 (by omega)) ?_
    refine wb (wI_e e2 (by omega)) ?_
    have h1 := ih n (hup h (m + 4) (.inl (0, 408, .inl (upd g (204 * (s : Int) + j).toNat (f (j : Int).toNat))))) (upd g (204 * (s : Int) + j).toNat (f (j : Int).toNat)) (j + 1) (by omega) (by omega) ((hup_ne _ _ (by omega)).trans e0) (ARR_ne e1 (by omega)) (ARR_eq _ _ _ _) ((hup_ne _ _ (by omega)).trans e3) (OFF_up o (by omega)) (fun i hi => by
      by_cases c : i = j
      · rw [upd_eq (by omega), c]
        congr 1
      · rw [upd_ne (by omega), hg i (by omega)]) (fun i hi => by rw [upd_ne (by omega), ho i hi])
    rw [cast1] at h1
    exact h1
theorem RFV_sl {h h' : HP} {m : Nat} {v : Nat → Int32} {A : AB} (e : RFV h m v A) (k : OFF (m + 4) 2 h h') {s : Option SG × Option SG} {sl z : Nat → Int32} (e1 : ARR h' (m + 4) 408 sl) (e2 : h' (m + 5) = some (.inl (1, 2, .inl z))) (e3 : SLR sl z s) : RFV h' m v (A.1, A.2.1, s, A.2.2.2) := by
  obtain ⟨e0, ⟨v', f, r0, r1, r2⟩, ⟨⟨ga, e20⟩, d', D, e21, e22⟩, ⟨g, e3'⟩, ⟨w, f', s0, s1, s2⟩, -, e8⟩ := e
  exact ⟨(k _ (by omega)).trans e0, ⟨v', f, (k _ (by omega)).trans r0, (k _ (by omega)).trans r1, r2⟩, ⟨⟨ga, (k _ (by omega)).trans e20⟩, d', D, (k _ (by omega)).trans e21, e22⟩, ⟨g, (k _ (by omega)).trans e3'⟩, ⟨w, f', (k _ (by omega)).trans s0, (k _ (by omega)).trans s1, s2⟩, ⟨sl, z, e1, e2, e3⟩, RTX_mv e8 (k _ (by omega)) rfl⟩
theorem R_save {h : HP} {m : Nat} {v : Nat → Int32} {A : AB} (e : RFV h m v A) {i : Int} (hi : -2147483648 ≤ i ∧ i < 2147483648) : WP (f_X8_save h m (zI i)) (RFR m (xSave A i).2.2 (xSave A i).1 (xSave A i).2.1 h) := by
  unfold f_X8_save b_X8_save_0 b_X8_save_15 xSave
  refine wb (kO_e e.1) ?_
  rw [show f_X8_in h (zI i) 0 1 = f_X8_in h (zI i) (zI 0) (zI 1) from rfl]
  refine wb (X8_in_is h hi (by omega) (by omega)) ?_
  by_cases c : 0 ≤ i ∧ i ≤ 1
  · rw [tB_1 c, if_neg (show ¬ ¬ (0 ≤ i ∧ i ≤ 1) by omega)]
    refine wf (by decide) ?_
    rw [zl0]
    refine wpb (X8_holds_is e (c := 0) (by omega)) ?_
    rintro ⟨z, h1⟩ ⟨q1, q2, q3⟩
    dsimp only at q1 q2 q3 ⊢
    subst q1
    rw [tB_1 rfl]
    refine wf (by decide) ?_
    have q2' := q2
    obtain ⟨e0, ⟨v', f, r0, r1, r2⟩, e3, e4, e5, ⟨sl, z, e6, e7, z0, z1, z2, z3⟩, e8⟩ := q2
    have one : ∀ j : Nat, (j = 0 ∨ j = 1) → i = (j : Int) → WP (b_X8_save_25 m (zI i) FU h1 (zI 0)) (RFR m (A.1, A.2.1, sSet A.2.2.1 i A.1, A.2.2.2) 0 A.1.1.length h) := by
      intro j hj hij
      have hl := save_loop (m := m) (s := j) (by omega) r2 (sl0 := sl) (h0 := h1) (v' := v) 204 FU h1 sl 0 (by unfold FU; omega) (by omega) e0 r1 e6 e7 (OFF_refl _ _ _) (fun i hi => absurd hi (by omega)) (fun _ _ => rfl)
      rw [hij]
      refine wm hl ?_
      rintro ⟨y, h2⟩ ⟨t1, ⟨g', t2, t3, t4⟩, t5, t6⟩
      refine ⟨⟨_, RFV_sl q2' t6 t2 t5 ?_, upd_eq rfl⟩, fun _ => t1, OFF_trans (OFF_wide q3 (by omega)) (OFF_wide t6 (by omega))⟩
      rcases hj with rfl | rfl
      · refine ⟨?_, ?_, fun U hU => ?_, fun U hU => ?_⟩
        · rw [upd_eq rfl]
          rfl
        · rw [upd_ne (by omega)]
          exact z1
        · rw [← Option.some.inj hU]
          exact RW_ext r2 fun k hk => t3 k hk
        · exact RW_ext (z3 U hU) fun k hk => t4 _ (by omega)
      · refine ⟨?_, ?_, fun U hU => ?_, fun U hU => ?_⟩
        · rw [upd_ne (by omega)]
          exact z0
        · rw [upd_eq rfl]
          rfl
        · exact RW_ext (z2 U hU) fun k hk => t4 _ (by omega)
        · rw [← Option.some.inj hU]
          exact RW_ext r2 fun k hk => t3 k hk
    by_cases c3 : i = 0
    · exact one 0 (Or.inl rfl) c3
    · exact one 1 (Or.inr rfl) (by omega)
  · rw [tB_0 c, if_pos c]
    refine wt rfl ?_
    exact act_no e (OFF_refl _ _ _) (c := 1) (by omega) rfl
def xRest (A : AB) (i : Int) : Int × Int × AB := if ¬ (0 ≤ i ∧ i ≤ 1) then (1, 0, A) else match sGet A.2.2.1 i with
  | none => (2, 0, A)
  | some T => (0, T.1.length, T, [], A.2.2)
theorem xRest_0 {A : AB} {i : Int} (c : ¬ (0 ≤ i ∧ i ≤ 1)) : xRest A i = (1, 0, A) := by
  unfold xRest
  rw [if_pos c]
theorem xRest_n {A : AB} {i : Int} (c : 0 ≤ i ∧ i ≤ 1) (g : sGet A.2.2.1 i = none) : xRest A i = (2, 0, A) := by
  unfold xRest
  rw [if_neg (by omega), g]
theorem xRest_s {A : AB} {i : Int} (c : 0 ≤ i ∧ i ≤ 1) {T : SG} (g : sGet A.2.2.1 i = some T) : xRest A i = (0, (T.1.length : Int), T, ([] : List SG), A.2.2) := by
  unfold xRest
  rw [if_neg (by omega), g]
theorem SLC_at {h : HP} {x : Nat} {s : Option SG × Option SG} (e : SLC h x s) {j : Nat} (hj : j = 0 ∨ j = 1) : ∃ (G : Nat → Option Nat) (fl : Nat → Int32), h (x + 291) = some (.inl (4, 2, .inr (.inr (.inr (.inr G))))) ∧ G j = some (x + 292 + 8 * j) ∧ h (x + 308) = some (.inl (1, 2, .inl fl)) ∧ fl j = tB ((sGet s j).isSome = true) ∧ ∀ U, sGet s j = some U → STO h (x + 1) (x + 292 + 8 * j) 48 U := by
  obtain ⟨G, fl, e0, ⟨e1, e2⟩, e3, ⟨e4, e5⟩, ⟨T, e6, e7⟩, U, e8, e9⟩ := e
  rcases hj with rfl | rfl
  · exact ⟨G, fl, e0, e1, e3, e4, fun V hV => by rw [← e7 V hV]; exact e6⟩
  · exact ⟨G, fl, e0, e2, e3, e5, fun V hV => by rw [← e9 V hV]; exact e8⟩
theorem slot_ok {A : AB} {M : Int} (H : AOK A M) {i : Int} {T : SG} (g : sGet A.2.2.1 i = some T) : GOK T M := by
  unfold sGet at g
  split at g
  · exact H.2.2.1 T g
  · exact H.2.2.2 T g
theorem C_rest {h : HP} {x : Nat} {A : AB} (e : CLS h x A) {M : Int} (H : AOK A M) {i : Int} (hi : -2147483648 ≤ i ∧ i < 2147483648) : WP (f_X7_restore h x (zI i)) (CLR7 x (xRest A i).2.2 [IOB, ISE] (xRest A i).1 (xRest A i).2.1 h) := by
  have g := CLS_g e
  have s := CLS_S e
  unfold f_X7_restore b_X7_restore_0 b_X7_restore_9
  simp only [zl0, show (2 : Int32) = zI 2 by decide]
  refine wb g.1 ?_
  by_cases c1 : i < 0
  · refine wt ((zI_lt (by omega)).mpr c1) ?_
    rw [xRest_0 (by omega)]
    exact wr ⟨rfl, e, OFF_refl _ _ _⟩
  · refine wf (fun d => c1 ((zI_lt (by omega)).mp d)) ?_
    by_cases c2 : i < 2
    · refine wt ((zI_lt (by omega)).mpr c2) ?_
      obtain ⟨j, rfl⟩ : ∃ j : Nat, i = (j : Int) := ⟨i.toNat, by omega⟩
      obtain ⟨G, fl, e0, e1, e2, e3, e4⟩ := SLC_at e.2.2.2.2.2.2.1 (j := j) (by omega)
      refine wb g.2.2.2.2.2.2.1 ?_
      refine wb (aZ_e e2 (by omega)) ?_
      rw [show (j : Int).toNat = j from rfl, e3]
      cases hg : sGet A.2.2.1 j with
      | none =>
        rw [xRest_n (by omega) hg, tB_0 (by decide)]
        refine wt rfl ?_
        exact wr ⟨rfl, e, OFF_refl _ _ _⟩
      | some T =>
        rw [xRest_s (by omega) hg, tB_1 (show (some T).isSome = true from rfl)]
        refine wf (by decide) ?_
        refine wb g.2.2.1 ?_
        refine wb g.2.2.2.2.2.1 ?_
        refine wb (aR_e e0 (by omega) e1) ?_
        have hT := (slot_ok H hg).2.1
        refine wpb (X3_become_is s (e4 T hg) (by omega) hT) ?_
        rintro h1 ⟨q1, q2⟩
        have e5 := CLS_st e (FR_c q2 (by omega)) (CLN_off e.2.1 q2 (by omega)) q1
        refine wb (CLS_g e5).2.2.2.2.1 ?_
        refine wpb (X1_forgetAll_is e5.2.2.2.2.2.1) ?_
        rintro h2 ⟨q3, q4⟩
        have e6 := CLS_hi e5 (OFF_wide q4 (by omega)) q3
        refine wb (CLS_g e6).2.2.1 ?_
        refine wb (X3_size_is (CLS_S e6)) ?_
        exact wr ⟨rfl, e6, OFF_trans (OFF_wide q2 (by omega)) (OFF_wide q4 (by omega))⟩
    · refine wf (fun d => c2 ((zI_lt (by omega)).mp d)) ?_
      rw [xRest_0 (by omega)]
      exact wr ⟨rfl, e, OFF_refl _ _ _⟩
/-- a slot is copied into the row of the state -/
theorem rest_loop {m : Nat} {v : Nat → Int32} {f : Nat → Int32} {s : Nat} (hs : s < 2) {h0 : HP} {S : SG} (hR : RW (fun i => f (204 * s + i)) S) : ∀ (r n : Nat) (h : HP) (g : Nat → Int32) (j : Nat), r < n → j + r = 204 → MOB h m v → ARR h (m + 4) 408 f → ARR h (m + 1) 204 g → OFF m 2 h0 h → (∀ i : Nat, i < j → g i = f (204 * s + i)) → WP (b_X8_restore_38 m (zI s) n h (zI j)) (fun r' => r'.1 = zI S.1.length ∧ MOB r'.2 m (upd v 4 (zI 0)) ∧ REF r'.2 m S ∧ OFF m 2 h0 r'.2) := by
  intro r
  induction r with
  | zero =>
    intro n h g j hn hj e0 e1 e2 o hg
    obtain ⟨n, rfl⟩ : ∃ k, n = k + 1 := ⟨n - 1, by omega⟩
    unfold b_X8_restore_38 c_X8_restore_38
    rw [show (204 : Int32) = zI 204 by decide]
    refine wt ((zI_le (by omega)).mpr (by omega)) ?_
    rw [zl0]
    refine wpb (pI_M e0 (by omega)) ?_
    rintro h2 ⟨q4, q5⟩
    have er : REF h2 m S := ⟨_, g, q4, (q5 _ (by omega)).trans e2, RW_ext hR fun i hi => hg i (by omega)⟩
    refine wb (X8_all_is er) ?_
    exact wr ⟨rfl, q4, er, OFF_trans o (OFF_wide q5 (by omega))⟩
  | succ r ih =>
    intro n h g j hn hj e0 e1 e2 o hg
    obtain ⟨n, rfl⟩ : ∃ k, n = k + 1 := ⟨n - 1, by omega⟩
    unfold b_X8_restore_38 c_X8_restore_38
    simp only [show (204 : Int32) = zI 204 by decide, zl1, zI_add, zI_mul]
    refine wf (fun d => absurd ((zI_le (by omega)).mp d) (by omega)) ?_
    refine wb (gR_e e0 rfl) ?_
    refine wb (gR_e e0 rfl) ?_
    refine wb (aI_e e1 (by omega)) ?_
    refine wb (wI_e e2 (by omega)) ?_
    have h1 := ih n (hup h (m + 1) (.inl (0, 204, .inl (upd g (j : Int).toNat (f (204 * (s : Int) + j).toNat))))) (upd g (j : Int).toNat (f (204 * (s : Int) + j).toNat)) (j + 1) (by omega) (by omega) ((hup_ne _ _ (by omega)).trans e0) (ARR_ne e1 (by omega)) (ARR_eq _ _ _ _) (OFF_up o (by omega)) (fun i hi => by
      by_cases c : i = j
      · rw [upd_eq (by omega), c]
        congr 1
      · rw [upd_ne (by omega), hg i (by omega)])
    rw [cast1] at h1
    exact h1
theorem RFV_re {h h' : HP} {m : Nat} {v : Nat → Int32} {A : AB} (e : RFV h m v A) (k : OFF m 2 h h') {v' : Nat → Int32} {S : SG} (e1 : MOB h' m v') (h4 : v' 4 = zI 0) (h8 : v' 8 = v 8) (e2 : REF h' m S) : RFV h' m v' (S, [], A.2.2) := by
  obtain ⟨e0, -, ⟨⟨ga, e20⟩, d', D, e21, e22⟩, ⟨g, e3'⟩, ⟨w, f', s0, s1, s2⟩, ⟨sl, z, e6, e7, e8⟩, e9⟩ := e
  exact ⟨e1, e2, ⟨⟨ga, (k _ (by omega)).trans e20⟩, d', D, (k _ (by omega)).trans e21, e22⟩, ⟨g, (k _ (by omega)).trans e3'⟩, ⟨v', f', e1, (k _ (by omega)).trans s1, h4, by rw [List.length_nil]; omega, fun i hi => absurd hi (by rw [List.length_nil]; omega)⟩, ⟨sl, z, (k _ (by omega)).trans e6, (k _ (by omega)).trans e7, e8⟩, RTX_mv e9 (k _ (by omega)) h8⟩
theorem SLR_at {sl z : Nat → Int32} {s : Option SG × Option SG} (e : SLR sl z s) {j : Nat} (hj : j = 0 ∨ j = 1) : z j = tB ((sGet s j).isSome = true) ∧ ∀ U, sGet s j = some U → RW (fun i => sl (204 * j + i)) U := by
  obtain ⟨e0, e1, e2, e3⟩ := e
  rcases hj with rfl | rfl
  · exact ⟨e0, e2⟩
  · exact ⟨e1, e3⟩
theorem R_rest {h : HP} {m : Nat} {v : Nat → Int32} {A : AB} (e : RFV h m v A) {i : Int} (hi : -2147483648 ≤ i ∧ i < 2147483648) : WP (f_X8_restore h m (zI i)) (RFR m (xRest A i).2.2 (xRest A i).1 (xRest A i).2.1 h) := by
  unfold f_X8_restore b_X8_restore_0 b_X8_restore_28
  refine wb (kO_e e.1) ?_
  rw [show f_X8_in h (zI i) 0 1 = f_X8_in h (zI i) (zI 0) (zI 1) from rfl]
  refine wb (X8_in_is h hi (by omega) (by omega)) ?_
  by_cases c : 0 ≤ i ∧ i ≤ 1
  · rw [tB_1 c]
    refine wf (by decide) ?_
    obtain ⟨j, rfl⟩ : ∃ j : Nat, i = (j : Int) := ⟨i.toNat, by omega⟩
    obtain ⟨sl, z, e6, e7, e8⟩ := e.2.2.2.2.2.1
    obtain ⟨z0, z1⟩ := SLR_at e8 (j := j) (by omega)
    refine wb (gR_e e.1 rfl) ?_
    refine wb (aZ_e e7 (by omega)) ?_
    rw [show (j : Int).toNat = j from rfl, z0]
    cases hg : sGet A.2.2.1 j with
    | none =>
      rw [xRest_n (by omega) hg, tB_0 (by decide)]
      refine wt rfl ?_
      exact act_no e (OFF_refl _ _ _) (c := 2) (by omega) rfl
    | some T =>
      rw [xRest_s (by omega) hg, tB_1 (show (some T).isSome = true from rfl)]
      refine wf (by decide) ?_
      rw [zl0]
      refine wpb (X8_holds_is e (c := 0) (by omega)) ?_
      rintro ⟨z, h1⟩ ⟨q1, q2, q3⟩
      dsimp only at q1 q2 q3 ⊢
      subst q1
      rw [tB_1 rfl]
      refine wf (by decide) ?_
      obtain ⟨v', f, r0, r1, r2⟩ := q2.2.1
      have hl := rest_loop (m := m) (s := j) (by omega) (z1 T hg) (h0 := h1) 204 FU h1 f 0 (by unfold FU; omega) (by omega) q2.1 ((q3 _ (by omega)).trans e6) r1 (OFF_refl _ _ _) (fun i hi => absurd hi (by omega))
      refine wm hl ?_
      rintro ⟨y, h2⟩ ⟨t1, t2, t3, t4⟩
      exact ⟨⟨_, RFV_re q2 t4 t2 (upd_eq rfl) (upd_ne (by omega)) t3, (upd_ne (by omega)).trans (upd_eq rfl)⟩, fun _ => t1, OFF_trans (OFF_wide q3 (by omega)) (OFF_wide t4 (by omega))⟩
  · rw [tB_0 c, xRest_0 c]
    refine wt rfl ?_
    exact act_no e (OFF_refl _ _ _) (c := 1) (by omega) rfl
