def fewV (S : SG) : Int := if eOf S (-1) - sOf S (-1) = 0 ∧ S.2.1.length < 2 then S.1.length else cnt (fun k => vw S k (-1) ≠ 0) 0 100
theorem C_few {h : HP} {x : Nat} {A : AB} (e : CLS h x A) {M : Int} (H : GOK A.1 M) : WP (f_X7_fewest h x) (fun r' => r'.1 = zI (fewV A.1) ∧ CLS r'.2 x A ∧ OFF x 311 h r'.2) := by
  have g := CLS_g e
  have hS := H.2
  unfold SML at hS
  unfold f_X7_fewest b_X7_fewest_0
  simp only [show (-1 : Int32) = zI (-1) by decide, zl0]
  refine wb g.1 ?_
  refine wb g.2.2.2.1 ?_
  refine wb g.2.2.1 ?_
  obtain ⟨T, hT⟩ := e.2.2.2.2.1
  refine wpb (X3_become_is hT (CLS_S e) (by omega) (by omega)) ?_
  rintro h1 ⟨q1, q2⟩
  have e1 := CLS_tr e (FR_c q2 (by omega)) (CLN_off e.2.1 q2 (by omega)) q1
  refine wb (CLS_g e1).2.2.2.1 ?_
  refine wpb (X3_dropAllEyes_is q1) ?_
  rintro h2 ⟨q3, q4⟩
  have e2 := CLS_tr e1 (FR_c q4 (by omega)) (CLN_off e1.2.1 q4 (by omega)) q3
  have o2 : OFF x 311 h h2 := OFF_trans (OFF_wide q2 (by omega)) (OFF_wide q4 (by omega))
  obtain ⟨S, hSd⟩ : ∃ S : SG, S = (A.1.1, A.1.2.1, [], A.1.2.2.2.1, A.1.2.2.2.2) := ⟨_, rfl⟩
  rw [← hSd] at q3
  have H2 : SOK S M := by
    obtain ⟨a1, a2, a3, a4, a5, a6, a7⟩ := H.1
    subst hSd
    exact ⟨a1, a2, a3, a4, fun e he => absurd he List.not_mem_nil, a6, a7⟩
  have hY : S.2.2.1 = [] := by rw [hSd]
  have l1 : S.1.length = A.1.1.length := by rw [hSd]
  have l2 : S.2.1.length = A.1.2.1.length := by rw [hSd]
  have ws1 : S.1 = A.1.1 := by rw [hSd]
  have hs : sOf A.1 (-1) = sOf S (-1) := by
    unfold sOf
    rw [hSd]
  have hcnt : cnt (fun k => vw A.1 k (-1) ≠ 0) 0 100 = cnt (fun k => st S.1 k = some true) 0 100 := cnt_c fun k _ _ => by
    rw [ws1]
    exact st_vw H.1 k
  have hE := H2.2.2.2.2.2.2
  have hp := plc hE (i := -1) (by omega)
  have he := eOf_m1 S
  have he' := eOf_m1 A.1
  unfold fewV
  rw [hcnt, he', hs, ← l1, ← l2]
  refine wb (CLS_g e2).2.2.2.1 ?_
  refine wb (X3_sizeOf_is q3 (i := -1) (by omega)) ?_
  by_cases c : eOf S (-1) - sOf S (-1) ≤ 0
  · refine wt ((zI_le (by omega)).mpr c) ?_
    by_cases c2 : S.2.1.length < 2
    · rw [if_pos (by omega)]
      exact weq (few_end e2 q3 (by omega) (by omega) (by unfold FU; omega)) ⟨rfl, e2, o2⟩
    · rw [if_neg (by omega)]
      have hF : FIT S M := by
        refine ⟨H2, hY, by omega, by omega, by omega, ?_⟩
        have hp0 := plc hE (i := 0) (by omega)
        have := en_le (S.1.drop (sOf S 0).toNat)
        rw [List.length_drop] at this
        omega
      exact C_fewL 4 FU h2 0 S (by unfold FU; omega) (by omega) (by omega) (by omega) (by omega) e2 q3 hF o2
  · refine wf (fun d => c ((zI_le (by omega)).mp d)) ?_
    rw [if_neg (by omega)]
    obtain ⟨m1, m2, m3, m4, m5⟩ := FIT_flush H2 hY (by omega) (by omega)
    refine wb (CLS_g e2).2.2.2.1 ?_
    refine wpb (X3_flushMemory_is e2.2.1 q3 H2 (by omega) (by omega) m1 m2) ?_
    rintro ⟨y, h3⟩ ⟨t1, t2, t3, t4⟩
    dsimp only at t1 t2 t3 t4 ⊢
    have e3 := CLS_tr e2 t4 t3 t2
    have o3 : OFF x 311 h h3 := OFF_trans o2 (fun b hb => t4 b (by omega) (by omega))
    by_cases c2 : S.2.1.length = 0
    · obtain ⟨m6, m7⟩ := m4 c2
      refine weq (few_end e3 t2 m6 (by omega) (by unfold FU; omega)) ⟨?_, e3, o3⟩
      rw [m7]
    · obtain ⟨m8, m9⟩ := m5 (by omega)
      have := C_fewL 4 FU h3 0 _ (by unfold FU; omega) (by omega) (by omega) (by omega) (by omega) e3 t2 m9 o3
      rw [cnt_c (fun k _ _ => m3 k)] at this
      exact this
theorem fewV_1 {S : SG} (h : eOf S (-1) - sOf S (-1) = 0 ∧ S.2.1.length < 2) : fewV S = S.1.length := if_pos h
theorem fewV_0 {S : SG} (h : ¬ (eOf S (-1) - sOf S (-1) = 0 ∧ S.2.1.length < 2)) : fewV S = cnt (fun k => vw S k (-1) ≠ 0) 0 100 := if_neg h
theorem push_mem {l : List SG} {S T : SG} (h : T ∈ push l S) : T ∈ l ∨ T = S := by
  unfold push at h
  rcases List.mem_append.mp h with h | h
  · split at h
    · exact Or.inl (List.mem_of_mem_tail h)
    · exact Or.inl h
  · exact Or.inr (List.mem_singleton.mp h)
theorem AOK_push {A : AB} {M M' : Int} (H : AOK A M) {T : SG} (hT : GOK T M') (h : M ≤ M' ∧ M' < 1000000) : AOK (T, push A.2.1 A.1, A.2.2) M' := by
  refine ⟨hT, fun U hU => ?_, fun U hU => GOK_up (H.2.2.1 U hU) h, fun U hU => GOK_up (H.2.2.2 U hU) h⟩
  rcases push_mem hU with hU | rfl
  · exact GOK_up (H.2.1 U hU) h
  · exact GOK_up H.1 h
theorem a_put {A : AB} {M : Int} (H : AOK A M) (hM : M + 200 < 1000000) (k v : Int) : AOK (xPut A k v).2.2 (M + 200) := by
  unfold xPut
  by_cases c : putF A.1 k v = 0
  · rw [if_neg (by omega)]
    have h1 := getD_ok H.1 (by omega) 112 k v
    rw [show cmdS 112 k v A.1 = cPut A.1 k v from rfl] at h1
    unfold cPut at h1
    rw [if_pos c] at h1
    exact AOK_push H (GOK_up h1 (by omega)) (by omega)
  · rw [if_pos c]
    exact AOK_up H (by omega)
theorem a_bury {A : AB} {M : Int} (H : AOK A M) (hM : M + 200 < 1000000) (k v : Int) : AOK (xBury A k v).2.2 (M + 200) := by
  unfold xBury
  by_cases c : buryF A.1 k v = 0
  · rw [if_neg (by omega)]
    have h1 := getD_ok H.1 (by omega) 120 k v
    rw [show cmdS 120 k v A.1 = cBury A.1 k v from rfl] at h1
    unfold cBury at h1
    rw [if_pos c] at h1
    exact AOK_push H (GOK_up h1 (by omega)) (by omega)
  · rw [if_pos c]
    exact AOK_up H (by omega)
theorem a_open {A : AB} {M : Int} (H : AOK A M) (hM : M + 200 < 1000000) : AOK (xOpen A).2.2 (M + 200) := by
  unfold xOpen
  by_cases c : A.1.2.2.1.length < 2
  · rw [if_neg (by omega)]
    have h1 := getD_ok H.1 (by omega) 111 0 0
    rw [show cmdS 111 0 0 A.1 = cOpen A.1 from rfl] at h1
    unfold cOpen at h1
    rw [if_pos c] at h1
    exact AOK_push H (GOK_up h1 (by omega)) (by omega)
  · rw [if_pos c]
    exact AOK_up H (by omega)
theorem a_close {A : AB} {M : Int} (H : AOK A M) (hM : M + 200 < 1000000) (i : Int) : AOK (xClose A i).2.2 (M + 200) := by
  unfold xClose
  by_cases c : 0 ≤ i ∧ i < A.1.2.2.1.length
  · rw [if_neg (by omega)]
    have h1 := getD_ok H.1 (by omega) 99 i 0
    rw [show cmdS 99 i 0 A.1 = cClose A.1 i from rfl] at h1
    unfold cClose at h1
    rw [if_pos c] at h1
    exact AOK_push H (GOK_up h1 (by omega)) (by omega)
  · rw [if_pos c]
    exact AOK_up H (by omega)
theorem a_flush {A : AB} {M : Int} (H : AOK A M) (hM : M + 200 < 1000000) : AOK (xFlush A).2.2 (M + 200) := by
  unfold xFlush
  by_cases c : flF A.1 = 0
  · rw [if_neg (by omega)]
    have h1 := getD_ok H.1 (by omega) 102 0 0
    rw [show cmdS 102 0 0 A.1 = cFlush A.1 from rfl] at h1
    unfold cFlush at h1
    rw [if_pos c] at h1
    exact AOK_push H (GOK_up h1 (by omega)) (by omega)
  · rw [if_pos c]
    exact AOK_up H (by omega)
theorem a_merge {A : AB} {M : Int} (H : AOK A M) (hM : M + 200 < 1000000) (i : Int) : AOK (xMerge A i).2.2 (M + 200) := by
  unfold xMerge
  by_cases c : mgF A.1 i = 0
  · rw [if_neg (by omega)]
    have h1 := getD_ok H.1 (by omega) 109 i 0
    rw [show cmdS 109 i 0 A.1 = cMerge A.1 i from rfl] at h1
    unfold cMerge at h1
    rw [if_pos c] at h1
    exact AOK_push H (GOK_up h1 (by omega)) (by omega)
  · rw [if_pos c]
    exact AOK_up H (by omega)
theorem a_undo {A : AB} {M : Int} (H : AOK A M) (hM : M + 200 < 1000000) : AOK (xUndo A).2.2 (M + 200) := by
  have H' := AOK_up (M' := M + 200) H (by omega)
  by_cases c : A.2.1.length = 0
  · rw [xUndo_0 c]
    exact H'
  · rw [xUndo_1 (by omega)]
    exact ⟨H'.2.1 _ (List.getElem_mem _), fun T hT => H'.2.1 T (List.dropLast_subset _ hT), H'.2.2.1, H'.2.2.2⟩
theorem s_about (A : AB) (w : Int) : (xAbout A w).2.2 = A := by
  unfold xAbout
  repeat' split
  all_goals rfl
theorem s_get (A : AB) (k i : Int) : (xGet A k i).2.2 = A := by
  unfold xGet
  repeat' split
  all_goals rfl
theorem s_write (A : AB) (i j w : Int) : (xWrite A i j w).2.2 = A := by
  unfold xWrite
  repeat' split
  all_goals rfl
theorem s_looks (A : AB) (k : Int) : (xLooks A k).2.2 = A := by
  unfold xLooks
  repeat' split
  all_goals rfl
theorem s_next (A : AB) (k i : Int) : (xNext A k i).2.2 = A := by
  unfold xNext
  repeat' split
  all_goals rfl
theorem s_count (A : AB) (p q i : Int) : (xCount A p q i).2.2 = A := by
  unfold xCount
  repeat' split
  all_goals rfl
theorem s_saves (A : AB) (i : Int) : (xSaves A i).2.2 = A := by
  unfold xSaves
  repeat' split
  all_goals rfl
theorem k_put (A : AB) (k v : Int) : 0 ≤ (xPut A k v).1 ∧ (xPut A k v).1 ≤ 3 := by
  have := putF_rng A.1 k v
  unfold xPut
  repeat' split
  all_goals (dsimp only; omega)
theorem k_bury (A : AB) (p q : Int) : 0 ≤ (xBury A p q).1 ∧ (xBury A p q).1 ≤ 3 := by
  have := buryF_rng A.1 p q
  unfold xBury
  repeat' split
  all_goals (dsimp only; omega)
theorem k_open (A : AB) : 0 ≤ (xOpen A).1 ∧ (xOpen A).1 ≤ 1 := by
  unfold xOpen
  repeat' split
  all_goals (dsimp only; omega)
theorem k_close (A : AB) (i : Int) : 0 ≤ (xClose A i).1 ∧ (xClose A i).1 ≤ 1 := by
  unfold xClose
  repeat' split
  all_goals (dsimp only; omega)
theorem k_flush (A : AB) : 0 ≤ (xFlush A).1 ∧ (xFlush A).1 ≤ 1 := by
  have := flF_rng A.1
  unfold xFlush
  repeat' split
  all_goals (dsimp only; omega)
theorem k_merge (A : AB) (i : Int) : 0 ≤ (xMerge A i).1 ∧ (xMerge A i).1 ≤ 2 := by
  have := mgF_rng A.1 i
  unfold xMerge
  repeat' split
  all_goals (dsimp only; omega)
theorem k_undo (A : AB) : 0 ≤ (xUndo A).1 ∧ (xUndo A).1 ≤ 1 := by
  by_cases c : A.2.1.length = 0
  · rw [xUndo_0 c]
    exact ⟨by dsimp only; omega, by dsimp only; omega⟩
  · rw [xUndo_1 (by omega)]
    exact ⟨Int.le_refl _, by dsimp only; omega⟩
theorem tk_is {a n : Nat} (h : n ≤ a) : tk a n = some (a - n) := if_pos h
theorem alN_is {bc bs n : Nat} (h1 : 1 ≤ bc) (h2 : n ≤ bs) (hn : n < 60000000) : alN bc bs (zI n) = some (bc - 1, bs - n) := by
  unfold alN
  rw [zI_clamp (by omega), if_neg (by
    rintro (d | d)
    · exact absurd ((zI_lt (b := 0) (by omega)).mp d) (by omega)
    · exact d (by omega)), tk_is h1, Option.bind_some, show (n : Int).toNat = n from rfl, tk_is h2]
  rfl
theorem newO {β : Type} {h : HP} {q ci : Nat} {fs : List Value} {F : HP → Option β} {P : β → Prop} (k : ∀ h', h' q = some (.inr (ci, fs)) → OFF q 1 h h' → WP (F h') P) : WP ((nwO h q ci fs).bind F) P :=
  k _ (hup_same _ _ _) (OFF_up (OFF_refl _ _ _) (by omega))
theorem setR {β : Type} {ci j a y : Nat} {h : HP} {fs fs2 : List Value} (e : h a = some (.inr (ci, fs))) (hj : j < fs.length) (es : fs.set j (.ref y) = fs2) {F : HP → Option β} {P : β → Prop} (k : ∀ h', h' a = some (.inr (ci, fs2)) → OFF a 1 h h' → WP (F h') P) : WP ((pR ci j h a y).bind F) P := by
  have h1 : pR ci j h a y = some (hup h a (.inr (ci, fs2))) := by
    unfold pR pV
    rw [e, ← es]
    simp [hj]
  exact wb h1 (k _ (hup_same _ _ _) (OFF_up (OFF_refl _ _ _) (by omega)))
theorem newI {β : Type} {ci j a q n : Nat} {h : HP} {fs fs2 : List Value} {x : Int32} (hx : x = zI n) (hn : n < 60000000) (e : h a = some (.inr (ci, fs))) (hj : j < fs.length) (es : fs.set j (.ref q) = fs2) (hq : q ≠ a) {F : HP → Option β} {P : β → Prop} (k : ∀ h', h' a = some (.inr (ci, fs2)) → ARR h' q n (fun _ => 0) → (∀ b, b ≠ a → b ≠ q → h' b = h b) → WP (F h') P) : WP ((nwI h q x).bind fun h2 => (pR ci j h2 a q).bind F) P := by
  subst hx
  have h1 : nwI h q (zI n) = some (hup h q (.inl (0, n, .inl (fun _ => 0)))) := by
    unfold nwI
    rw [zI_clamp (by omega)]
    rfl
  refine wb h1 ?_
  refine setR ((hup_ne _ _ (by omega)).trans e) hj es fun h' k1 k2 => ?_
  exact k h' k1 ((k2 _ (by omega)).trans (hup_same _ _ _)) fun b b1 b2 => (k2 _ (by omega)).trans (hup_ne _ _ b2)
theorem newZ {β : Type} {ci j a q n : Nat} {h : HP} {fs fs2 : List Value} {x : Int32} (hx : x = zI n) (hn : n < 60000000) (e : h a = some (.inr (ci, fs))) (hj : j < fs.length) (es : fs.set j (.ref q) = fs2) (hq : q ≠ a) {F : HP → Option β} {P : β → Prop} (k : ∀ h', h' a = some (.inr (ci, fs2)) → h' q = some (.inl (1, n, .inl (fun _ => 0))) → (∀ b, b ≠ a → b ≠ q → h' b = h b) → WP (F h') P) : WP ((nwZ h q x).bind fun h2 => (pR ci j h2 a q).bind F) P := by
  subst hx
  have h1 : nwZ h q (zI n) = some (hup h q (.inl (1, n, .inl (fun _ => 0)))) := by
    unfold nwZ
    rw [zI_clamp (by omega)]
    rfl
  refine wb h1 ?_
  refine setR ((hup_ne _ _ (by omega)).trans e) hj es fun h' k1 k2 => ?_
  exact k h' k1 ((k2 _ (by omega)).trans (hup_same _ _ _)) fun b b1 b2 => (k2 _ (by omega)).trans (hup_ne _ _ b2)
theorem newR {β : Type} {ci j a q n kd : Nat} {h : HP} {fs fs2 : List Value} {x : Int32} (hx : x = zI n) (hn : n < 60000000) (e : h a = some (.inr (ci, fs))) (hj : j < fs.length) (es : fs.set j (.ref q) = fs2) (hq : q ≠ a) {F : HP → Option β} {P : β → Prop} (k : ∀ h', h' a = some (.inr (ci, fs2)) → h' q = some (.inl (kd, n, .inr (.inr (.inr (.inr (fun _ => none)))))) → (∀ b, b ≠ a → b ≠ q → h' b = h b) → WP (F h') P) : WP ((nwR kd h q x).bind fun h2 => (pR ci j h2 a q).bind F) P := by
  subst hx
  have h1 : nwR kd h q (zI n) = some (hup h q (.inl (kd, n, .inr (.inr (.inr (.inr (fun _ => none))))))) := by
    unfold nwR
    rw [zI_clamp (by omega)]
    rfl
  refine wb h1 ?_
  refine setR ((hup_ne _ _ (by omega)).trans e) hj es fun h' k1 k2 => ?_
  exact k h' k1 ((k2 _ (by omega)).trans (hup_same _ _ _)) fun b b1 b2 => (k2 _ (by omega)).trans (hup_ne _ _ b2)
theorem X6_init_is {h : HP} {a cap : Nat} (e : h a = some (.inr (6, [.null, .null, .null, .null, .int 0]))) (hc : cap ≤ 348) {x : Int32} (hx : x = zI cap) : WP (f_X6_init h (a + 1) a x) (fun r => r.2 = a + 5 ∧ WRS r.1 a cap [] ∧ OFF a 5 h r.1) := by
  subst hx
  have hj : jmax (zI cap) 0 = zI cap := by
    unfold jmax
    rw [zl0, if_neg (fun d => absurd ((zI_lt (a := (cap : Int)) (b := 0) (by omega)).mp d) (by omega))]
  unfold f_X6_init b_X6_init_0
  rw [hj]
  refine wb (alN_is (by omega) (by omega) (by omega)) ?_
  refine newI rfl (by omega) e (by simp) rfl (by omega) fun h1 e1 a1 k1 => ?_
  refine wb (alN_is (by omega) (by omega) (by omega)) ?_
  refine newI rfl (by omega) e1 (by simp) rfl (by omega) fun h2 e2 a2 k2 => ?_
  refine wb (alN_is (by omega) (by omega) (by omega)) ?_
  refine newI rfl (by omega) e2 (by simp) rfl (by omega) fun h3 e3 a3 k3 => ?_
  refine wb (alN_is (by omega) (by omega) (by omega)) ?_
  refine newI rfl (by omega) e3 (by simp) rfl (by omega) fun h4 e4 a4 k4 => ?_
  refine wr ⟨rfl, ⟨_, _, _, _, e4, (k4 _ (by omega) (by omega)).trans ((k3 _ (by omega) (by omega)).trans ((k2 _ (by omega) (by omega)).trans a1)), (k4 _ (by omega) (by omega)).trans ((k3 _ (by omega) (by omega)).trans a2), (k4 _ (by omega) (by omega)).trans a3, a4, Nat.zero_le _, by omega, fun j hj => absurd hj (Nat.not_lt_zero j), fun j hj => absurd hj (Nat.not_lt_zero j), fun j hj => absurd hj (Nat.not_lt_zero j), fun j hj => absurd hj (Nat.not_lt_zero j)⟩, fun b hb => ?_⟩
  exact (k4 _ (by omega) (by omega)).trans ((k3 _ (by omega) (by omega)).trans ((k2 _ (by omega) (by omega)).trans (k1 _ (by omega) (by omega))))
theorem X3_init_is {h : HP} {a cl cap : Nat} (e : h a = some (.inr (3, [.null, .null, .null, .null, .int 0, .int 0, .int 0, .int 0]))) (hc : cap ≤ 348) {x : Int32} (hx : x = zI cap) : WP (f_X3_init h (a + 1) a cl x) (fun r => r.2 = a + 8 ∧ STO r.1 cl a cap emp ∧ OFF a 8 h r.1) := by
  unfold f_X3_init b_X3_init_0
  refine wb (alN_is (n := 6) (by omega) (by omega) (by omega)) ?_
  refine newI (n := 6) rfl (by omega) e (by simp) rfl (by omega) fun h1 e1 a1 k1 => ?_
  refine wb (alN_is (n := 2) (by omega) (by omega) (by omega)) ?_
  refine newI (n := 2) rfl (by omega) e1 (by simp) rfl (by omega) fun h2 e2 a2 k2 => ?_
  refine setR e2 (by simp) rfl fun h3 e3 k3 => ?_
  refine wb (tk_is (by omega)) ?_
  refine wb (tk_is (by omega)) ?_
  refine newO fun h4 e4 k4 => ?_
  refine wb (tk_is (by omega)) ?_
  refine wb (tk_is (by omega)) ?_
  refine wpb (X6_init_is (a := a + 3) e4 hc hx) ?_
  rintro ⟨h5, y⟩ ⟨q1, q2, q3⟩
  dsimp only at q1 q2 q3 ⊢
  subst q1
  refine setR (fs2 := [.ref cl, .ref (a + 3), .ref (a + 1), .ref (a + 2), .int (zI 0), .int (zI 0), .int (zI 0), .int (zI 0)]) ((q3 _ (by omega)).trans ((k4 _ (by omega)).trans e3)) (by simp) rfl fun h6 e6 k6 => ?_
  refine wr ⟨rfl, ⟨_, _, e6, (k6 _ (by omega)).trans ((q3 _ (by omega)).trans ((k4 _ (by omega)).trans ((k3 _ (by omega)).trans ((k2 _ (by omega) (by omega)).trans a1)))), (k6 _ (by omega)).trans ((q3 _ (by omega)).trans ((k4 _ (by omega)).trans ((k3 _ (by omega)).trans a2))), WRS_off q2 k6 (by omega), by decide, by decide, fun j hj => absurd hj (Nat.not_lt_zero j), fun j hj => absurd hj (Nat.not_lt_zero j)⟩, fun b hb => ?_⟩
  exact (k6 _ (by omega)).trans ((q3 _ (by omega)).trans ((k4 _ (by omega)).trans ((k3 _ (by omega)).trans ((k2 _ (by omega) (by omega)).trans (k1 _ (by omega) (by omega))))))
theorem X4_init_is {h : HP} {a : Nat} (e : h a = some (.inr (4, [.null, .int 0]))) : WP (f_X4_init h (a + 1) a) (fun r => r.2 = a + 2 ∧ TXT r.1 a [] ∧ OFF a 2 h r.1) := by
  unfold f_X4_init b_X4_init_0
  refine wb (alN_is (n := 120) (by omega) (by omega) (by omega)) ?_
  refine newI (n := 120) rfl (by omega) e (by simp) rfl (by omega) fun h1 e1 a1 k1 => ?_
  exact wr ⟨rfl, ⟨_, e1, a1, fun j hj => absurd hj (Nat.not_lt_zero j), Nat.zero_le _, fun c hc => absurd hc List.not_mem_nil⟩, fun b hb => k1 _ (by omega) (by omega)⟩
theorem X5_init_is {h : HP} {a : Nat} (e : h a = some (.inr (5, [.null]))) : WP (f_X5_init h (a + 1) a) (fun r => r.2 = a + 2 ∧ VIEW r.1 a (fun _ => 0) ∧ OFF a 2 h r.1) := by
  unfold f_X5_init b_X5_init_0
  refine wb (alN_is (n := 100) (by omega) (by omega) (by omega)) ?_
  refine newI (n := 100) rfl (by omega) e (by simp) rfl (by omega) fun h1 e1 a1 k1 => ?_
  exact wr ⟨rfl, ⟨_, e1, a1, fun k _ => rfl⟩, fun b hb => k1 _ (by omega) (by omega)⟩
theorem wR_e {kd ci : Nat} {h : HP} {a n : Nat} {f : Nat → Option Nat} {z : Int} {y : Nat} (e : h a = some (.inl (kd, n, .inr (.inr (.inr (.inr f)))))) (hz : 0 ≤ z ∧ z < n ∧ (n : Int) < 2147483648) (hk : kO ci h y = some ()) : wR kd ci h a (zI z) y = some (hup h a (.inl (kd, n, .inr (.inr (.inr (.inr (fun j => if j = z.toNat then some y else f j))))))) := by
  have h1 := zI_in hz
  unfold wR
  rw [e]
  simp only [if_true]
  rw [if_neg h1, hk, Option.bind_some, zI_clamp (by omega)]
  rfl
theorem X1_initL {a cl : Nat} {h0 : HP} {fs : List Value} (hfs : fs[0]? = some (.ref (a + 1))) : ∀ (r n : Nat) (h : HP) (bc bs i : Nat) (G : Nat → Option Nat), r < n → i + r = 14 → 8 * r ≤ bc → 1413 * r ≤ bs → h a = some (.inr (1, fs)) → h (a + 1) = some (.inl (4, 14, .inr (.inr (.inr (.inr G))))) → (∀ j : Nat, j < i → G j = some (a + 2 + 8 * j)) → (∀ j : Nat, j < i → STO h cl (a + 2 + 8 * j) 48 emp) → OFF a 114 h0 h → WP (b_X1_init_15 a cl n h (a + 2 + 8 * i) bc bs (zI i)) (fun r' => r'.2 = a + 114 ∧ r'.1 a = some (.inr (1, fs)) ∧ (∃ G', r'.1 (a + 1) = some (.inl (4, 14, .inr (.inr (.inr (.inr G'))))) ∧ ∀ j : Nat, j < 14 → G' j = some (a + 2 + 8 * j)) ∧ (∀ j : Nat, j < 14 → STO r'.1 cl (a + 2 + 8 * j) 48 emp) ∧ OFF a 114 h0 r'.1) := by
  intro r
  induction r with
  | zero =>
    intro n h bc bs i G hn hi hbc hbs e0 e1 hG hS o
    obtain ⟨n, rfl⟩ : ∃ k, n = k + 1 := ⟨n - 1, by omega⟩
    unfold b_X1_init_15 c_X1_init_15
    rw [show (14 : Int32) = zI 14 by decide]
    refine wt ((zI_le (by omega)).mpr (by omega)) ?_
    exact wr ⟨by dsimp only; omega, e0, ⟨G, e1, fun j hj => hG j (by omega)⟩, fun j hj => hS j (by omega), o⟩
  | succ r ih =>
    intro n h bc bs i G hn hi hbc hbs e0 e1 hG hS o
    obtain ⟨n, rfl⟩ : ∃ k, n = k + 1 := ⟨n - 1, by omega⟩
    unfold b_X1_init_15 c_X1_init_15
    rw [show (14 : Int32) = zI 14 by decide]
    refine wf (fun d => absurd ((zI_le (by omega)).mp d) (by omega)) ?_
    refine wb (gR_e e0 hfs) ?_
    refine wb (tk_is (by omega)) ?_
    refine wb (tk_is (by omega)) ?_
    refine newO fun h1 f1 k1 => ?_
    refine wb (tk_is (by omega)) ?_
    refine wb (tk_is (by omega)) ?_
    refine wpb (X3_init_is (cl := cl) (cap := 48) f1 (by omega) rfl) ?_
    rintro ⟨h2, y⟩ ⟨q1, q2, q3⟩
    dsimp only at q1 q2 q3 ⊢
    subst q1
    have o2 : OFF (a + 2 + 8 * i) 8 h h2 := OFF_trans (OFF_wide k1 (by omega)) q3
    have q2c := q2
    obtain ⟨fe, fy, s0, -⟩ := q2c
    refine wb (wR_e ((o2 _ (by omega)).trans e1) (by omega) (kO_e s0)) ?_
    have o3 : OFF (a + 1) 1 h2 (hup h2 (a + 1) (.inl (4, 14, .inr (.inr (.inr (.inr (fun j => if j = (i : Int).toNat then some (a + 2 + 8 * i) else G j))))))) := OFF_up (OFF_refl _ _ _) (by omega)
    have f3 := hup_same h2 (a + 1) (.inl (4, 14, .inr (.inr (.inr (.inr (fun j => if j = (i : Int).toNat then some (a + 2 + 8 * i) else G j))))))
    generalize hup h2 (a + 1) _ = h3 at *
    have := ih n h3 (bc - 1 - 7) (bs - 8 - 1405) (i + 1) _ (by omega) (by omega) (by omega) (by omega) ((o3 _ (by omega)).trans ((o2 _ (by omega)).trans e0)) f3 (fun j hj => by
      by_cases c : j = i
      · rw [if_pos (by omega), c]
      · rw [if_neg (by omega)]
        exact hG j (by omega)) (fun j hj => by
      by_cases c : j = i
      · subst c
        exact STO_off q2 o3 (by omega)
      · exact STO_off (STO_off (hS j (by omega)) o2 (by omega)) o3 (by omega)) (OFF_trans o (OFF_trans (OFF_wide o2 (by omega)) (OFF_wide o3 (by omega))))
    rw [cast1, show a + 2 + 8 * (i + 1) = a + 2 + 8 * i + 8 by omega] at this
    rw [zl1, zI_add]
    exact this
theorem X1_init_is {h : HP} {a cl : Nat} (e : h a = some (.inr (1, [.null, .int 0, .int 0]))) : WP (f_X1_init h (a + 1) a cl) (fun r => r.2 = a + 114 ∧ HISC r.1 cl a [] ∧ OFF a 114 h r.1) := by
  unfold f_X1_init b_X1_init_0
  refine wb (alN_is (n := 14) (by omega) (by omega) (by omega)) ?_
  refine newR (n := 14) rfl (by omega) e (by simp) rfl (by omega) fun h1 e1 a1 k1 => ?_
  have hl := X1_initL (a := a) (cl := cl) (h0 := h) (fs := [.ref (a + 1), .int 0, .int 0]) rfl 14 FU h1 112 19782 0 (fun _ => none) (by unfold FU; omega) (by omega) (by omega) (by omega) e1 a1 (fun j hj => absurd hj (Nat.not_lt_zero j)) (fun j hj => absurd hj (Nat.not_lt_zero j)) (fun b hb => k1 _ (by omega) (by omega))
  refine wm hl ?_
  rintro ⟨h2, y⟩ ⟨q1, q2, ⟨G, q3, q4⟩, q5, q6⟩
  exact ⟨q1, ⟨0, G, q2, q3, q4, by omega, Nat.zero_le _, fun i hi => ⟨_, q5 i hi⟩, fun i hi => absurd hi (Nat.not_lt_zero i)⟩, q6⟩
theorem KEYS_0 {h : HP} {a : Nat} (e : h a = some (.inr (2, [.long 0, .long 0]))) : KEYS h a (fun _ => false) := by
  refine ⟨0, 0, e, fun k hk => ?_⟩
  unfold kbit
  split
  · exact BitVec.getLsbD_zero
  · exact BitVec.getLsbD_zero
theorem X0_initL {c : Nat} {h0 : HP} {fs : List Value} (hfs : fs[1]? = some (.ref (c + 6))) : ∀ (r n : Nat) (h : HP) (bc bs i : Nat) (G : Nat → Option Nat), r < n → i + r = 148 → r ≤ bc → 2 * r ≤ bs → h c = some (.inr (0, fs)) → h (c + 6) = some (.inl (3, 148, .inr (.inr (.inr (.inr G))))) → (∀ j : Nat, j < i → G j = some (c + 10 + j)) → (∀ j : Nat, j < 3 + i → KEYS h (c + 7 + j) (fun _ => false)) → OFF (c + 6) 152 h0 h → WP (b_X0_init_63 c n h (c + 10 + i) bc bs (zI i)) (fun r' => r'.2 = c + 158 ∧ r'.1 c = some (.inr (0, fs)) ∧ (∃ G', r'.1 (c + 6) = some (.inl (3, 148, .inr (.inr (.inr (.inr G'))))) ∧ ∀ j : Nat, j < 148 → G' j = some (c + 10 + j)) ∧ (∀ j : Nat, j < 151 → KEYS r'.1 (c + 7 + j) (fun _ => false)) ∧ OFF (c + 6) 152 h0 r'.1) := by
  intro r
  have hN : ∀ {h : HP} {G : Nat → Option Nat}, h (c + 6) = some (.inl (3, 148, .inr (.inr (.inr (.inr G))))) → aN h (c + 6) = some (zI 148) := fun e => by
    unfold aN
    rw [e]
    rfl
  induction r with
  | zero =>
    intro n h bc bs i G hn hi hbc hbs e0 e1 hG hS o
    obtain ⟨n, rfl⟩ : ∃ k, n = k + 1 := ⟨n - 1, by omega⟩
    unfold b_X0_init_63 c_X0_init_63
    refine wb (gR_e e0 hfs) ?_
    refine wb (hN e1) ?_
    refine wt ((zI_le (by omega)).mpr (by omega)) ?_
    exact wr ⟨by dsimp only; omega, e0, ⟨G, e1, fun j hj => hG j (by omega)⟩, fun j hj => hS j (by omega), o⟩
  | succ r ih =>
    intro n h bc bs i G hn hi hbc hbs e0 e1 hG hS o
    obtain ⟨n, rfl⟩ : ∃ k, n = k + 1 := ⟨n - 1, by omega⟩
    unfold b_X0_init_63 c_X0_init_63
    refine wb (gR_e e0 hfs) ?_
    refine wb (hN e1) ?_
    refine wf (fun d => absurd ((zI_le (by omega)).mp d) (by omega)) ?_
    refine wb (gR_e e0 hfs) ?_
    refine wb (tk_is (by omega)) ?_
    refine wb (tk_is (by omega)) ?_
    refine newO fun h1 f1 k1 => ?_
    refine wb (tk_is (by omega)) ?_
    refine wb (tk_is (by omega)) ?_
    refine wb (show f_X2_init h1 (c + 10 + i + 1) (c + 10 + i) = some (h1, c + 10 + i + 1) from rfl) ?_
    dsimp only
    refine wb (wR_e ((k1 _ (by omega)).trans e1) (by omega) (kO_e f1)) ?_
    have o3 : OFF (c + 6) 1 h1 (hup h1 (c + 6) (.inl (3, 148, .inr (.inr (.inr (.inr (fun j => if j = (i : Int).toNat then some (c + 10 + i) else G j))))))) := OFF_up (OFF_refl _ _ _) (by omega)
    have f3 := hup_same h1 (c + 6) (.inl (3, 148, .inr (.inr (.inr (.inr (fun j => if j = (i : Int).toNat then some (c + 10 + i) else G j))))))
    generalize hup h1 (c + 6) _ = h3 at *
    have := ih n h3 (bc - 1 - 0) (bs - 2 - 0) (i + 1) _ (by omega) (by omega) (by omega) (by omega) ((o3 _ (by omega)).trans ((k1 _ (by omega)).trans e0)) f3 (fun j hj => by
      by_cases c : j = i
      · rw [if_pos (by omega), c]
      · rw [if_neg (by omega)]
        exact hG j (by omega)) (fun j hj => by
      by_cases d : j = 3 + i
      · subst d
        exact KEYS_off (KEYS_0 (h := h1) (by rw [show c + 7 + (3 + i) = c + 10 + i by omega]; exact f1)) o3 (by omega)
      · exact KEYS_off (KEYS_off (hS j (by omega)) k1 (by omega)) o3 (by omega)) (OFF_trans o (OFF_trans (OFF_wide k1 (by omega)) (OFF_wide o3 (by omega))))
    rw [cast1] at this
    rw [zl1, zI_add]
    exact this
theorem X0_init_is {h : HP} {c : Nat} (e : h c = some (.inr (0, [.null, .null, .null, .null, .null]))) : WP (f_X0_init h (c + 1) c) (fun r => r.2 = c + 158 ∧ CLN r.1 c ∧ OFF c 158 h r.1) := by
  unfold f_X0_init b_X0_init_0
  refine wb (tk_is (by omega)) ?_
  refine wb (tk_is (by omega)) ?_
  refine newO fun h1 e1 k1 => ?_
  refine wb (tk_is (by omega)) ?_
  refine wb (tk_is (by omega)) ?_
  refine wpb (X6_init_is (cap := 348) e1 (by omega) rfl) ?_
  rintro ⟨h2, y⟩ ⟨q1, q2, q3⟩
  dsimp only at q1 q2 q3 ⊢
  subst q1
  refine setR ((q3 _ (by omega)).trans ((k1 _ (by omega)).trans e)) (by simp) rfl fun h3 e3 k3 => ?_
  refine wb (alN_is (n := 148) (by omega) (by omega) (by omega)) ?_
  refine newR (n := 148) rfl (by omega) e3 (by simp) rfl (by omega) fun h4 e4 a4 k4 => ?_
  refine wb (tk_is (by omega)) ?_
  refine wb (tk_is (by omega)) ?_
  refine newO fun h5 e5 k5 => ?_
  refine wb (tk_is (by omega)) ?_
  refine wb (tk_is (by omega)) ?_
  refine wb (show f_X2_init h5 (c + 1 + 5 + 1 + 1) (c + 1 + 5 + 1) = some (h5, c + 1 + 5 + 1 + 1) from rfl) ?_
  dsimp only
  refine setR ((k5 _ (by omega)).trans e4) (by simp) rfl fun h6 e6 k6 => ?_
  refine wb (tk_is (by omega)) ?_
  refine wb (tk_is (by omega)) ?_
  refine newO fun h7 e7 k7 => ?_
  refine wb (tk_is (by omega)) ?_
  refine wb (tk_is (by omega)) ?_
  refine wb (show f_X2_init h7 (c + 1 + 5 + 1 + 1 + 1) (c + 1 + 5 + 1 + 1) = some (h7, c + 1 + 5 + 1 + 1 + 1) from rfl) ?_
  dsimp only
  refine setR ((k7 _ (by omega)).trans e6) (by simp) rfl fun h8 e8 k8 => ?_
  refine wb (tk_is (by omega)) ?_
  refine wb (tk_is (by omega)) ?_
  refine newO fun h9 e9 k9 => ?_
  refine wb (tk_is (by omega)) ?_
  refine wb (tk_is (by omega)) ?_
  refine wb (show f_X2_init h9 (c + 1 + 5 + 1 + 1 + 1 + 1) (c + 1 + 5 + 1 + 1 + 1) = some (h9, c + 1 + 5 + 1 + 1 + 1 + 1) from rfl) ?_
  dsimp only
  refine setR (fs2 := [.ref (c + 1), .ref (c + 6), .ref (c + 7), .ref (c + 8), .ref (c + 9)]) ((k9 _ (by omega)).trans e8) (by simp) rfl fun h10 e10 k10 => ?_
  have far : ∀ b, b ≠ c → b ≠ c + 9 → h10 b = h8 b := fun b b1 b2 => (k10 _ (by omega)).trans (k9 _ (by omega))
  have far2 : ∀ b, b ≠ c → b ≠ c + 9 → b ≠ c + 8 → h10 b = h6 b := fun b b1 b2 b3 => (far b b1 b2).trans ((k8 _ (by omega)).trans (k7 _ (by omega)))
  have far3 : ∀ b, b ≠ c → b ≠ c + 9 → b ≠ c + 8 → b ≠ c + 7 → h10 b = h4 b := fun b b1 b2 b3 b4 => (far2 b b1 b2 b3).trans ((k6 _ (by omega)).trans (k5 _ (by omega)))
  have far4 : ∀ b, b ≠ c → b ≠ c + 9 → b ≠ c + 8 → b ≠ c + 7 → b ≠ c + 6 → h10 b = h2 b := fun b b1 b2 b3 b4 b5 => (far3 b b1 b2 b3 b4).trans ((k4 _ b1 (by omega)).trans (k3 _ (by omega)))
  have ky : ∀ j : Nat, j < 3 + 0 → KEYS h10 (c + 7 + j) (fun _ => false) := by
    intro j hj
    by_cases d0 : j = 0
    · subst d0
      exact KEYS_0 ((far2 _ (by omega) (by omega) (by omega)).trans ((k6 _ (by omega)).trans e5))
    · by_cases d1 : j = 1
      · subst d1
        exact KEYS_0 ((far _ (by omega) (by omega)).trans ((k8 _ (by omega)).trans e7))
      · have : j = 2 := by omega
        subst this
        exact KEYS_0 ((k10 _ (by omega)).trans e9)
  have hl := X0_initL (c := c) (h0 := h10) (fs := [.ref (c + 1), .ref (c + 6), .ref (c + 7), .ref (c + 8), .ref (c + 9)]) rfl 148 FU h10 148 296 0 (fun _ => none) (by unfold FU; omega) (by omega) (by omega) (by omega) e10 ((far3 _ (by omega) (by omega) (by omega) (by omega)).trans a4) (fun j hj => absurd hj (Nat.not_lt_zero j)) ky (OFF_refl _ _ _)
  refine wm hl ?_
  rintro ⟨h11, y⟩ ⟨t1, t2, ⟨G, t3, t4⟩, t5, t6⟩
  refine ⟨t1, ⟨[], _, G, t2, t3, t4, WRS_mv q2 fun b b1 b2 => (t6 _ (by omega)).trans (far4 _ (by omega) (by omega) (by omega) (by omega) (by omega)), t5⟩, fun b hb => ?_⟩
  exact (t6 _ (by omega)).trans ((far4 _ (by omega) (by omega) (by omega) (by omega) (by omega)).trans ((q3 _ (by omega)).trans (k1 _ (by omega))))
