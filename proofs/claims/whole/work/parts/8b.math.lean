/-! the law's loop -/
theorem ifE {P : Prop} [Decidable P] {a b v : Option Int32} (h1 : P → a = v) (h2 : ¬ P → b = v) : (if P then a else b) = v := by
  by_cases c : P
  · rw [if_pos c]
    exact h1 c
  · rw [if_neg c]
    exact h2 c
theorem RFS_V {h h' : HP} {x m : Nat} {A : AB} (hm : RFS h m A) (k : OFF x 311 h h') (hd : x + 311 ≤ m) : ∃ w, RFV h' m w A := RFS_off hm k (by omega)
theorem law_pair {f : Option (Int32 × HP)} {g : HP → Option (Int32 × HP)} {K : HP → Option Int32} {x m o : Nat} {A A' : AB} {v : Int} {h : HP} (hm : RFS h m A) (hd : x + 311 ≤ m ∧ m + 9 ≤ o) (out : OUTA h o) (hf : WP f (fun r => r.1 = zI v ∧ CLS r.2 x A' ∧ OFF x 311 h r.2)) (hg : ∀ h' w, RFV h' m w A → WP (g h') (fun r => r.1 = zI v ∧ RFS r.2 m A' ∧ OFF m 9 h' r.2)) (hk : ∀ h', CLS h' x A' → RFS h' m A' → OUTA h' o → K h' = some 1) : (f.bind fun y5 => (g y5.2).bind fun y9 => if y5.1 = y9.1 then K y9.2 else some 0) = some 1 := by
  obtain ⟨⟨y5, h1⟩, e1, ⟨q1, q2, q3⟩⟩ := hf
  dsimp only at q1 q2 q3
  rw [e1, Option.bind_some]
  obtain ⟨w, hw⟩ := RFS_V hm q3 hd.1
  obtain ⟨⟨y9, h2⟩, e2, ⟨r1, r2, r3⟩⟩ := hg h1 w hw
  dsimp only at r1 r2 r3 ⊢
  rw [e2, Option.bind_some, q1, r1, if_pos rfl]
  refine hk h2 (CLS_off q2 r3 (by omega)) r2 ?_
  obtain ⟨f, hf⟩ := out
  exact ⟨f, (r3 _ (by omega)).trans ((q3 _ (by omega)).trans hf)⟩
theorem law_pure {g : Option (Int32 × HP)} {K : HP → Option Int32} {x m o : Nat} {A : AB} {v : Int} {h : HP} (e : CLS h x A) (hd : x + 311 ≤ m ∧ m + 9 ≤ o) (out : OUTA h o) (hg : WP g (fun r => r.1 = zI v ∧ RFS r.2 m A ∧ OFF m 9 h r.2)) (hk : ∀ h', CLS h' x A → RFS h' m A → OUTA h' o → K h' = some 1) : (g.bind fun y9 => if zI v = y9.1 then K y9.2 else some 0) = some 1 := by
  obtain ⟨⟨y9, h2⟩, e2, ⟨r1, r2, r3⟩⟩ := hg
  dsimp only at r1 r2 r3
  rw [e2, Option.bind_some, r1, if_pos rfl]
  refine hk h2 (CLS_off e r3 (by omega)) r2 ?_
  obtain ⟨f, hf⟩ := out
  exact ⟨f, (r3 _ (by omega)).trans hf⟩
theorem sL_is {L : Nat} {xs : Nat → Int32} {j : Nat} (hj : j < L) (hL : L ≤ 2048) : ∃ a : Int, sL L xs (zI j) = some (zI a) ∧ -2147483648 ≤ a ∧ a < 2147483648 := by
  refine ⟨(xs j).toInt, ?_, ?_⟩
  · unfold sL
    rw [if_neg (by
      rw [zI_clamp (by omega)]
      rintro (d | d)
      · exact absurd ((zI_lt (b := 0) (by omega)).mp d) (by omega)
      · omega), zI_clamp (by omega), show (j : Int).toNat = j from rfl]
    exact congrArg some (Int32.ofInt_toInt _).symm
  · have h1 := Int32.le_toInt (xs j)
    have h2 := Int32.toInt_lt (xs j)
    omega
theorem tk_is {a n : Nat} (h : n ≤ a) : tk a n = some (a - n) := if_pos h
theorem law_loop {L : Nat} {xs : Nat → Int32} {v0 : Nat} (hL : L ≤ 2048) {x m o : Nat} (hd : x + 311 ≤ m ∧ m + 9 ≤ o) : ∀ (r n : Nat) (h : HP) (bc bs i : Nat) (A : AB), r < n → L < 4 * i + 4 * r + 4 → i + r ≤ 600 → r ≤ bc → 6 * r ≤ bs → CLS h x A → RFS h m A → OUTA h o → AOK A (200 * i) → b_L_law_23 L xs v0 n h bc bs x m o (zI ((4 * i : Nat) : Int)) = some 1 := by
  have hd0 : x + 311 ≤ o := by omega
  have hLL : (Int32.ofNat L) - 4 = zI ((L : Int) - 4) := by
    rw [show Int32.ofNat L = zI L from zI_nat L, show (4 : Int32) = zI 4 by decide, zI_sub]
  intro r
  induction r with
  | zero =>
    intro n h bc bs i A hn hi hir hbc hbs e hm out H
    obtain ⟨n, rfl⟩ : ∃ k, n = k + 1 := ⟨n - 1, by omega⟩
    unfold b_L_law_23 c_L_law_23
    rw [hLL, if_pos ((zI_lt (by omega)).mpr (by omega))]
  | succ r ih =>
    intro n h bc bs i A hn hi hir hbc hbs e hm out H
    obtain ⟨n, rfl⟩ : ∃ k, n = k + 1 := ⟨n - 1, by omega⟩
    unfold b_L_law_23 c_L_law_23
    rw [hLL]
    refine ifE (fun _ => rfl) (fun hc => ?_)
    have hi4 : 4 * i + 4 ≤ L := by
      by_cases d : L < 4 * i + 4
      · exact absurd ((zI_lt (a := (L : Int) - 4) (b := ((4 * i : Nat) : Int)) (by omega)).mpr (by omega)) hc
      · omega
    obtain ⟨a0, s0, b0⟩ := sL_is (xs := xs) (j := 4 * i) (by omega) hL
    obtain ⟨a1, s1, b1⟩ := sL_is (xs := xs) (j := 4 * i + 1) (by omega) hL
    obtain ⟨a2, s2, b2⟩ := sL_is (xs := xs) (j := 4 * i + 2) (by omega) hL
    obtain ⟨a3, s3, b3⟩ := sL_is (xs := xs) (j := 4 * i + 3) (by omega) hL
    rw [← show zI ((4 * i : Nat) : Int) + 1 = zI ((4 * i + 1 : Nat) : Int) by rw [zl1, zI_add]; rfl] at s1
    rw [← show zI ((4 * i : Nat) : Int) + 2 = zI ((4 * i + 2 : Nat) : Int) by rw [show (2 : Int32) = zI 2 by decide, zI_add]; rfl] at s2
    rw [← show zI ((4 * i : Nat) : Int) + 3 = zI ((4 * i + 3 : Nat) : Int) by rw [show (3 : Int32) = zI 3 by decide, zI_add]; rfl] at s3
    have t1 := tk_is (a := bc) (n := 1) (by omega)
    have t6 := tk_is (a := bs) (n := 6) (by omega)
    have nx : ∀ (A' : AB) (bc' bs' : Nat), AOK A' (200 * i + 200) → r ≤ bc' → 6 * r ≤ bs' → ∀ h', CLS h' x A' → RFS h' m A' → OUTA h' o → b_L_law_23 L xs v0 n h' bc' bs' x m o (zI ((4 * i : Nat) : Int) + 4) = some 1 := by
      intro A' bc' bs' H' g1 g2 h' e' m' o'
      have := ih n h' bc' bs' (i + 1) A' (by omega) (by omega) (by omega) g1 g2 e' m' o' (by rw [show (200 : Int) * ((i + 1 : Nat) : Int) = 200 * i + 200 by omega]; exact H')
      rw [show zI ((4 * i : Nat) : Int) + 4 = zI ((4 * (i + 1) : Nat) : Int) by rw [show (4 : Int32) = zI 4 by decide, zI_add]; exact congrArg zI (by omega)]
      exact this
    have HS := AOK_up (M' := 200 * i + 200) H (by omega)
    rw [s0, Option.bind_some]
    generalize zI a0 &&& 31 = op
    refine ifE (fun _ => ?_) (fun _ => ?_)
    · simp only [s1, t1, t6, Option.bind_some]
      have hk := k_append A a1
      exact law_step (rf := fun h' => f_X8_append h' m (zI a1)) (K := fun h' => b_L_law_23 L xs v0 n h' (bc - 1) (bs - 6) x m o (zI ((4 * i : Nat) : Int) + 4)) hm hd (by omega) (W_append e b1 out hd0) (fun h' w e' => R_append e' b1) (nx (xAppend A a1).2.2 (bc - 1) (bs - 6) (a_append H (by omega) a1) (by omega) (by omega))
    refine ifE (fun _ => ?_) (fun _ => ?_)
    · exact law_pair (g := fun h' => f_X8_clearText h' m) (K := fun h' => b_L_law_23 L xs v0 n h' bc bs x m o (zI ((4 * i : Nat) : Int) + 4)) hm hd out (C_clearText e) (fun h' w e' => R_clearText e') (nx (A.1, A.2.1, A.2.2.1, []) bc bs ⟨HS.1, HS.2.1, HS.2.2.1, HS.2.2.2⟩ (by omega) (by omega))
    refine ifE (fun _ => ?_) (fun _ => ?_)
    · obtain ⟨w, e'⟩ : ∃ w, RFV h m w A := hm
      rw [C_errorPosition e, Option.bind_some]
      exact law_pure (K := fun h' => b_L_law_23 L xs v0 n h' bc bs x m o (zI ((4 * i : Nat) : Int) + 4)) e hd out (R_errorPosition e') (nx A bc bs HS (by omega) (by omega))
    refine ifE (fun _ => ?_) (fun _ => ?_)
    · simp only [t1, t6, Option.bind_some]
      have hk := k_load A
      exact law_step (rf := fun h' => f_X8_load h' m) (K := fun h' => b_L_law_23 L xs v0 n h' (bc - 1) (bs - 6) x m o (zI ((4 * i : Nat) : Int) + 4)) hm hd (by omega) (W_load e out hd0) (fun h' w e' => R_load e') (nx (xLoad A).2.2 (bc - 1) (bs - 6) (a_load H (by omega)) (by omega) (by omega))
    refine ifE (fun _ => ?_) (fun _ => ?_)
    · simp only [s1, t1, t6, Option.bind_some]
      have hk := k_about A a1
      exact law_step (rf := fun h' => f_X8_about h' m (zI a1)) (K := fun h' => b_L_law_23 L xs v0 n h' (bc - 1) (bs - 6) x m o (zI ((4 * i : Nat) : Int) + 4)) hm hd (by omega) (W_about e H b1 out hd0) (fun h' w e' => R_about e' H.1 b1) (nx (xAbout A a1).2.2 (bc - 1) (bs - 6) (by rw [s_about]; exact HS) (by omega) (by omega))
    refine ifE (fun _ => ?_) (fun _ => ?_)
    · simp only [s1, s2, t1, t6, Option.bind_some]
      have hk := k_get A a1 a2
      exact law_step (rf := fun h' => f_X8_get h' m (zI a1) (zI a2)) (K := fun h' => b_L_law_23 L xs v0 n h' (bc - 1) (bs - 6) x m o (zI ((4 * i : Nat) : Int) + 4)) hm hd (by omega) (W_get e H b1 b2 out hd0) (fun h' w e' => R_get e' H.1 b1 b2) (nx (xGet A a1 a2).2.2 (bc - 1) (bs - 6) (by rw [s_get]; exact HS) (by omega) (by omega))
    refine ifE (fun _ => ?_) (fun _ => ?_)
    · simp only [s1, s2, t1, t6, Option.bind_some]
      have hk := k_run A a1 a2
      exact law_step (rf := fun h' => f_X8_run h' m (zI a1) (zI a2)) (K := fun h' => b_L_law_23 L xs v0 n h' (bc - 1) (bs - 6) x m o (zI ((4 * i : Nat) : Int) + 4)) hm hd (by omega) (W_run e H b1 b2 out hd0) (fun h' w e' => R_run e' H.1 b1 b2) (nx (xRun A a1 a2).2.2 (bc - 1) (bs - 6) (by rw [s_run]; exact HS) (by omega) (by omega))
    refine ifE (fun _ => ?_) (fun _ => ?_)
    · simp only [s1, s2, s3, t1, t6, Option.bind_some]
      have hk := k_write A a1 a2 a3
      exact law_step (rf := fun h' => f_X8_write h' m (zI a1) (zI a2) (zI a3)) (K := fun h' => b_L_law_23 L xs v0 n h' (bc - 1) (bs - 6) x m o (zI ((4 * i : Nat) : Int) + 4)) hm hd (by omega) (W_write e H b1 b2 b3 out hd0) (fun h' w e' => R_write e' H.1 b1 b2 b3) (nx (xWrite A a1 a2 a3).2.2 (bc - 1) (bs - 6) (by rw [s_write]; exact HS) (by omega) (by omega))
    refine ifE (fun _ => ?_) (fun _ => ?_)
    · simp only [s1, t1, t6, Option.bind_some]
      have hk := k_eye A a1
      exact law_step (rf := fun h' => f_X8_eye h' m (zI a1)) (K := fun h' => b_L_law_23 L xs v0 n h' (bc - 1) (bs - 6) x m o (zI ((4 * i : Nat) : Int) + 4)) hm hd (by omega) (W_eye e b1 out hd0) (fun h' w e' => R_eye e' b1) (nx (xEye A a1).2.2 (bc - 1) (bs - 6) (by rw [s_eye]; exact HS) (by omega) (by omega))
    refine ifE (fun _ => ?_) (fun _ => ?_)
    · simp only [s1, s2, t1, t6, Option.bind_some]
      have hk := k_put A a1 a2
      exact law_step (rf := fun h' => f_X8_put h' m (zI a1) (zI a2)) (K := fun h' => b_L_law_23 L xs v0 n h' (bc - 1) (bs - 6) x m o (zI ((4 * i : Nat) : Int) + 4)) hm hd (by omega) (W_put e H b1 b2 out hd0) (fun h' w e' => R_put e' H.1 b1 b2) (nx (xPut A a1 a2).2.2 (bc - 1) (bs - 6) (a_put H (by omega) a1 a2) (by omega) (by omega))
    refine ifE (fun _ => ?_) (fun _ => ?_)
    · simp only [s1, s2, t1, t6, Option.bind_some]
      have hk := k_bury A a1 a2
      exact law_step (rf := fun h' => f_X8_bury h' m (zI a1) (zI a2)) (K := fun h' => b_L_law_23 L xs v0 n h' (bc - 1) (bs - 6) x m o (zI ((4 * i : Nat) : Int) + 4)) hm hd (by omega) (W_bury e H b1 b2 out hd0) (fun h' w e' => R_bury e' H.1 b1 b2) (nx (xBury A a1 a2).2.2 (bc - 1) (bs - 6) (a_bury H (by omega) a1 a2) (by omega) (by omega))
    refine ifE (fun _ => ?_) (fun _ => ?_)
    · simp only [t1, t6, Option.bind_some]
      have hk := k_open A
      exact law_step (rf := fun h' => f_X8_open h' m) (K := fun h' => b_L_law_23 L xs v0 n h' (bc - 1) (bs - 6) x m o (zI ((4 * i : Nat) : Int) + 4)) hm hd (by omega) (W_open e H out hd0) (fun h' w e' => R_open e' H.1) (nx (xOpen A).2.2 (bc - 1) (bs - 6) (a_open H (by omega)) (by omega) (by omega))
    refine ifE (fun _ => ?_) (fun _ => ?_)
    · simp only [s1, t1, t6, Option.bind_some]
      have hk := k_close A a1
      exact law_step (rf := fun h' => f_X8_close h' m (zI a1)) (K := fun h' => b_L_law_23 L xs v0 n h' (bc - 1) (bs - 6) x m o (zI ((4 * i : Nat) : Int) + 4)) hm hd (by omega) (W_close e H b1 out hd0) (fun h' w e' => R_close e' H.1 b1) (nx (xClose A a1).2.2 (bc - 1) (bs - 6) (a_close H (by omega) a1) (by omega) (by omega))
    refine ifE (fun _ => ?_) (fun _ => ?_)
    · simp only [t1, t6, Option.bind_some]
      have hk := k_flush A
      exact law_step (rf := fun h' => f_X8_flush h' m) (K := fun h' => b_L_law_23 L xs v0 n h' (bc - 1) (bs - 6) x m o (zI ((4 * i : Nat) : Int) + 4)) hm hd (by omega) (W_flush e H out hd0) (fun h' w e' => R_flush e' H.1) (nx (xFlush A).2.2 (bc - 1) (bs - 6) (a_flush H (by omega)) (by omega) (by omega))
    refine ifE (fun _ => ?_) (fun _ => ?_)
    · simp only [s1, t1, t6, Option.bind_some]
      have hk := k_merge A a1
      exact law_step (rf := fun h' => f_X8_merge h' m (zI a1)) (K := fun h' => b_L_law_23 L xs v0 n h' (bc - 1) (bs - 6) x m o (zI ((4 * i : Nat) : Int) + 4)) hm hd (by omega) (W_merge e H b1 out hd0) (fun h' w e' => R_merge e' H.1 b1) (nx (xMerge A a1).2.2 (bc - 1) (bs - 6) (a_merge H (by omega) a1) (by omega) (by omega))
    refine ifE (fun _ => ?_) (fun _ => ?_)
    · simp only [t1, t6, Option.bind_some]
      have hk := k_undo A
      exact law_step (rf := fun h' => f_X8_undo h' m) (K := fun h' => b_L_law_23 L xs v0 n h' (bc - 1) (bs - 6) x m o (zI ((4 * i : Nat) : Int) + 4)) hm hd (by omega) (W_undo e H out hd0) (fun h' w e' => R_undo e') (nx (xUndo A).2.2 (bc - 1) (bs - 6) (a_undo H (by omega)) (by omega) (by omega))
    refine ifE (fun _ => ?_) (fun _ => ?_)
    · simp only [s1, t1, t6, Option.bind_some]
      have hk := k_looks A a1
      exact law_step (rf := fun h' => f_X8_looks h' m (zI a1)) (K := fun h' => b_L_law_23 L xs v0 n h' (bc - 1) (bs - 6) x m o (zI ((4 * i : Nat) : Int) + 4)) hm hd (by omega) (W_looks e H b1 out hd0) (fun h' w e' => R_looks e' H.1 b1) (nx (xLooks A a1).2.2 (bc - 1) (bs - 6) (by rw [s_looks]; exact HS) (by omega) (by omega))
    refine ifE (fun _ => ?_) (fun _ => ?_)
    · simp only [s1, s2, t1, t6, Option.bind_some]
      have hk := k_next A a1 a2
      exact law_step (rf := fun h' => f_X8_next h' m (zI a1) (zI a2)) (K := fun h' => b_L_law_23 L xs v0 n h' (bc - 1) (bs - 6) x m o (zI ((4 * i : Nat) : Int) + 4)) hm hd (by omega) (W_next e H b1 b2 out hd0) (fun h' w e' => R_next e' H.1 b1 b2) (nx (xNext A a1 a2).2.2 (bc - 1) (bs - 6) (by rw [s_next]; exact HS) (by omega) (by omega))
    refine ifE (fun _ => ?_) (fun _ => ?_)
    · simp only [s1, s2, s3, t1, t6, Option.bind_some]
      have hk := k_count A a1 a2 a3
      exact law_step (rf := fun h' => f_X8_count h' m (zI a1) (zI a2) (zI a3)) (K := fun h' => b_L_law_23 L xs v0 n h' (bc - 1) (bs - 6) x m o (zI ((4 * i : Nat) : Int) + 4)) hm hd (by omega) (W_count e H b1 b2 b3 out hd0) (fun h' w e' => R_count e' H.1 b1 b2 b3) (nx (xCount A a1 a2 a3).2.2 (bc - 1) (bs - 6) (by rw [s_count]; exact HS) (by omega) (by omega))
    refine ifE (fun _ => ?_) (fun _ => ?_)
    · obtain ⟨w, e'⟩ : ∃ w, RFV h m w A := hm
      rw [C_hidden e H.1, Option.bind_some]
      exact law_pure (K := fun h' => b_L_law_23 L xs v0 n h' bc bs x m o (zI ((4 * i : Nat) : Int) + 4)) e hd out (R_hidden e' H.1) (nx A bc bs HS (by omega) (by omega))
    refine ifE (fun _ => ?_) (fun _ => ?_)
    · simp only [s1, t1, t6, Option.bind_some]
      have hk := k_grave A a1
      exact law_step (rf := fun h' => f_X8_grave h' m (zI a1)) (K := fun h' => b_L_law_23 L xs v0 n h' (bc - 1) (bs - 6) x m o (zI ((4 * i : Nat) : Int) + 4)) hm hd (by omega) (W_grave e H b1 out hd0) (fun h' w e' => R_grave e' H.1 b1) (nx (xGrave A a1).2.2 (bc - 1) (bs - 6) (by rw [s_grave]; exact HS) (by omega) (by omega))
    refine ifE (fun _ => ?_) (fun _ => ?_)
    · simp only [s1, t1, t6, Option.bind_some]
      have hk := k_saves A a1
      exact law_step (rf := fun h' => f_X8_saves h' m (zI a1)) (K := fun h' => b_L_law_23 L xs v0 n h' (bc - 1) (bs - 6) x m o (zI ((4 * i : Nat) : Int) + 4)) hm hd (by omega) (W_saves e H b1 out hd0) (fun h' w e' => R_saves e' H.1 b1) (nx (xSaves A a1).2.2 (bc - 1) (bs - 6) (by rw [s_saves]; exact HS) (by omega) (by omega))
    refine ifE (fun _ => ?_) (fun _ => ?_)
    · exact law_pair (g := fun h' => f_X8_best h' m) (K := fun h' => b_L_law_23 L xs v0 n h' bc bs x m o (zI ((4 * i : Nat) : Int) + 4)) hm hd out (C_best e H.1) (fun h' w e' => R_best e' H.1) (nx A bc bs HS (by omega) (by omega))
    refine ifE (fun _ => ?_) (fun _ => ?_)
    · exact law_pair (g := fun h' => f_X8_fewest h' m) (K := fun h' => b_L_law_23 L xs v0 n h' bc bs x m o (zI ((4 * i : Nat) : Int) + 4)) hm hd out (C_few e H.1) (fun h' w e' => R_few e' H.1) (nx A bc bs HS (by omega) (by omega))
    refine ifE (fun _ => ?_) (fun _ => ?_)
    · simp only [s1, s2, s3, t1, t6, Option.bind_some]
      have hk := k_script A a1 (jlshl (Int32.toInt64 (zI a2)) 32 ||| Int32.toInt64 (zI a3) &&& 4294967295)
      exact law_step (rf := fun h' => f_X8_runScript h' m (zI a1) (jlshl (Int32.toInt64 (zI a2)) 32 ||| Int32.toInt64 (zI a3) &&& 4294967295)) (K := fun h' => b_L_law_23 L xs v0 n h' (bc - 1) (bs - 6) x m o (zI ((4 * i : Nat) : Int) + 4)) hm hd (by omega) (W_script e H (by omega) b1 (jlshl (Int32.toInt64 (zI a2)) 32 ||| Int32.toInt64 (zI a3) &&& 4294967295) out hd0) (fun h' w e' => R_script e' H.1 (by omega) b1 _) (nx (xScript A a1 (jlshl (Int32.toInt64 (zI a2)) 32 ||| Int32.toInt64 (zI a3) &&& 4294967295)).2.2 (bc - 1) (bs - 6) (by rw [s_script]; exact HS) (by omega) (by omega))
    refine ifE (fun _ => ?_) (fun _ => ?_)
    · simp only [s1, s2, s3, t1, t6, Option.bind_some]
      have hk := k_sim A (jlshl (Int32.toInt64 (zI a1)) 32 ||| Int32.toInt64 (zI a2) &&& 4294967295) a3
      exact law_step (rf := fun h' => f_X8_simulate h' m (jlshl (Int32.toInt64 (zI a1)) 32 ||| Int32.toInt64 (zI a2) &&& 4294967295) (zI a3)) (K := fun h' => b_L_law_23 L xs v0 n h' (bc - 1) (bs - 6) x m o (zI ((4 * i : Nat) : Int) + 4)) hm hd (by omega) (W_sim e H (by omega) b3 (jlshl (Int32.toInt64 (zI a1)) 32 ||| Int32.toInt64 (zI a2) &&& 4294967295) out hd0) (fun h' w e' => R_sim e' H.1 (by omega) b3 _) (nx (xSim A (jlshl (Int32.toInt64 (zI a1)) 32 ||| Int32.toInt64 (zI a2) &&& 4294967295) a3).2.2 (bc - 1) (bs - 6) (by rw [s_sim]; exact HS) (by omega) (by omega))
    refine ifE (fun _ => ?_) (fun _ => ?_)
    · simp only [s1, t1, t6, Option.bind_some]
      have hk := k_save A a1
      exact law_step (rf := fun h' => f_X8_save h' m (zI a1)) (K := fun h' => b_L_law_23 L xs v0 n h' (bc - 1) (bs - 6) x m o (zI ((4 * i : Nat) : Int) + 4)) hm hd (by omega) (W_save e H b1 out hd0) (fun h' w e' => R_save e' b1) (nx (xSave A a1).2.2 (bc - 1) (bs - 6) (a_save H (by omega) a1) (by omega) (by omega))
    refine ifE (fun _ => ?_) (fun _ => ?_)
    · simp only [s1, t1, t6, Option.bind_some]
      have hk := k_restore A a1
      exact law_step (rf := fun h' => f_X8_restore h' m (zI a1)) (K := fun h' => b_L_law_23 L xs v0 n h' (bc - 1) (bs - 6) x m o (zI ((4 * i : Nat) : Int) + 4)) hm hd (by omega) (W_restore e H b1 out hd0) (fun h' w e' => R_rest e' b1) (nx (xRest A a1).2.2 (bc - 1) (bs - 6) (a_rest H (by omega) a1) (by omega) (by omega))
    exact nx A bc bs HS (by omega) (by omega) h e hm out
