/-! the calls, one by one: append, clearText, errorPosition -/
def IAE : String := "java/lang/IllegalArgumentException"
def ISE : String := "java/lang/IllegalStateException"
def IOB : String := "java/lang/IndexOutOfBoundsException"
theorem EXC_0 (ns : List String) {c v : Int} (h : c = 0) : EXC ns c v = .inl (zI v) := by
  unfold EXC
  rw [if_pos h]
theorem EXC_1 (n : String) (ns : List String) (v : Int) : EXC (n :: ns) 1 v = .inr n := rfl
theorem EXC_2 (n n2 : String) (ns : List String) (v : Int) : EXC (n :: n2 :: ns) 2 v = .inr n2 := rfl
theorem EXC_3 (n n2 n3 : String) (ns : List String) (v : Int) : EXC (n :: n2 :: n3 :: ns) 3 v = .inr n3 := rfl
def xAppend (A : AB) (c : Int) : Int × Int × AB := if ¬ (0 ≤ c ∧ c ≤ 255) then (1, 0, A) else if A.2.2.2.length = 120 then (2, 0, A) else (0, A.2.2.2.length + 1, A.1, A.2.1, A.2.2.1, A.2.2.2 ++ [c])
theorem C_append {h : HP} {x : Nat} {A : AB} (e : CLS h x A) {c : Int} (hc : -2147483648 ≤ c ∧ c < 2147483648) : WP (f_X7_append h x (zI c)) (CLR7 x (xAppend A c).2.2 [IAE, ISE] (xAppend A c).1 (xAppend A c).2.1 h) := by
  have g := CLS_g e
  have hb := TXT_b (CLS_T e)
  unfold f_X7_append b_X7_append_0 b_X7_append_11 xAppend
  rw [zl0, show (255 : Int32) = zI 255 by decide]
  refine wb g.1 ?_
  by_cases c1 : 0 ≤ c ∧ c ≤ 255
  · rw [if_neg (show ¬ ¬ (0 ≤ c ∧ c ≤ 255) by omega)]
    refine wf (fun d => absurd ((zI_lt (by omega)).mp d) (by omega)) ?_
    refine wt ((zI_le (by omega)).mpr (by omega)) ?_
    refine wb g.2.1 ?_
    refine wb (X4_isFull_is (CLS_T e)) ?_
    by_cases c2 : A.2.2.2.length = 120
    · rw [if_pos c2, tB_1 c2]
      refine wf (by decide) ?_
      exact wr ⟨rfl, e, OFF_refl _ _ _⟩
    · rw [if_neg c2, tB_0 c2]
      refine wt rfl ?_
      refine wb g.2.1 ?_
      refine wpb (X4_addSign_is (CLS_T e) (by omega) c1) ?_
      rintro h1 ⟨q1, q2⟩
      have e1 := CLS_tx e q2 q1
      refine wb (CLS_g e1).2.1 ?_
      refine wb (X4_length_is q1) ?_
      refine wr ⟨?_, e1, OFF_wide q2 (by omega)⟩
      rw [List.length_append, List.length_singleton]
      rfl
  · rw [if_pos c1]
    by_cases c2 : c < 0
    · refine wt ((zI_lt (by omega)).mpr c2) ?_
      exact wr ⟨rfl, e, OFF_refl _ _ _⟩
    · refine wf (fun d => c2 ((zI_lt (by omega)).mp d)) ?_
      refine wf (fun d => absurd ((zI_le (by omega)).mp d) (by omega)) ?_
      exact wr ⟨rfl, e, OFF_refl _ _ _⟩
theorem RFV_t {h h' : HP} {m : Nat} {v v' : Nat → Int32} {A : AB} {l : List Int} (e : RFV h m v A) (k : ∀ b, b ≠ m → b ≠ m + 6 → h' b = h b) (k0 : MOB h' m v') (h4 : v' 4 = v 4) (t : RTX h' m v' l) : RFV h' m v' (A.1, A.2.1, A.2.2.1, l) := by
  obtain ⟨e1, e2, ⟨⟨ga, e30⟩, d', D, e31, e32⟩, ⟨g, e4⟩, e5, ⟨sl, z, e6, e7, e8⟩, e9⟩ := e
  exact ⟨k0, REF_mv e2 (k _ (by omega) (by omega)) k0, ⟨⟨ga, (k _ (by omega) (by omega)).trans e30⟩, d', D, (k _ (by omega) (by omega)).trans e31, e32⟩, ⟨g, (k _ (by omega) (by omega)).trans e4⟩, HIS_mv e1 e5 (k _ (by omega) (by omega)) k0 h4, ⟨sl, z, (k _ (by omega) (by omega)).trans e6, (k _ (by omega) (by omega)).trans e7, e8⟩, t⟩
theorem R_append {h : HP} {m : Nat} {v : Nat → Int32} {A : AB} (e : RFV h m v A) {c : Int} (hc : -2147483648 ≤ c ∧ c < 2147483648) : WP (f_X8_append h m (zI c)) (RFR m (xAppend A c).2.2 (xAppend A c).1 (xAppend A c).2.1 h) := by
  have t := e.2.2.2.2.2.2
  have hb := RTX_b t
  have no : ∀ (k : Int) (y : Int32), k ≠ 0 → -1000 < k ∧ k < 1000 → y = zI k → WP (b_X8_append_30 m (zI c) h m y) (RFR m A k 0 h) := by
    intro k y hk0 hk1 hy
    subst hy
    unfold b_X8_append_30
    refine wpb (X8_holds_is e hk1) ?_
    rintro ⟨z, h1⟩ ⟨q1, q2, q3⟩
    dsimp only at q1 q2 q3 ⊢
    subst q1
    rw [tB_0 hk0]
    refine wt rfl ?_
    exact wr ⟨⟨_, q2, upd_eq rfl⟩, fun d => absurd d hk0, OFF_wide q3 (by omega)⟩
  unfold f_X8_append b_X8_append_0 xAppend
  refine wb (kO_e e.1) ?_
  rw [show f_X8_in h (zI c) 0 255 = f_X8_in h (zI c) (zI 0) (zI 255) from rfl]
  refine wb (X8_in_is h hc (by omega) (by omega)) ?_
  by_cases c1 : 0 ≤ c ∧ c ≤ 255
  · rw [if_neg (show ¬ ¬ (0 ≤ c ∧ c ≤ 255) by omega), tB_1 c1]
    refine wf (by decide) ?_
    refine wb (gI_e e.1 rfl) ?_
    rw [t.1, show (120 : Int32) = zI 120 by decide]
    by_cases c2 : A.2.2.2.length = 120
    · rw [if_pos c2]
      refine wt ((zI_inj (by omega)).mpr (by omega)) ?_
      exact no 2 _ (by omega) (by omega) rfl
    · rw [if_neg c2]
      refine wf (fun d => c2 (by have := (zI_inj (by omega)).mp d; omega)) ?_
      unfold b_X8_append_30
      rw [zl0]
      refine wpb (X8_holds_is e (c := 0) (by omega)) ?_
      rintro ⟨z, h1⟩ ⟨q1, q2, q3⟩
      dsimp only at q1 q2 q3 ⊢
      subst q1
      rw [tB_1 rfl]
      refine wf (by decide) ?_
      obtain ⟨t0, f, t1, t2, t3, t4⟩ := q2.2.2.2.2.2.2
      refine wb (gR_e q2.1 rfl) ?_
      refine wb (gI_e q2.1 rfl) ?_
      rw [t0]
      refine wb (wI_e t1 (by omega)) ?_
      have k0 := MOB_ne (e := .inl (0, 120, .inl (upd f (A.2.2.2.length : Int).toNat (zI c)))) q2.1 (show m ≠ m + 6 by omega)
      have k6 := ARR_eq h1 (m + 6) 120 (upd f (A.2.2.2.length : Int).toNat (zI c))
      have o1 : ∀ b, b ≠ m + 6 → hup h1 (m + 6) (.inl (0, 120, .inl (upd f (A.2.2.2.length : Int).toNat (zI c)))) b = h1 b := fun b hb => hup_ne _ _ hb
      generalize hup h1 (m + 6) _ = h2 at *
      refine wb (gI_e k0 rfl) ?_
      rw [t0, zl1, zI_add]
      refine wpb (pI_M k0 (by omega)) ?_
      rintro h3 ⟨q4, q5⟩
      refine wb (gI_e q4 rfl) ?_
      have o2 : ∀ b, b ≠ m → b ≠ m + 6 → h3 b = h1 b := fun b h1 h2 => (q5 b (by omega)).trans (o1 b h2)
      refine wr ⟨⟨_, RFV_t q2 o2 q4 (upd_ne (by omega)) ⟨?_, _, (q5 _ (by omega)).trans k6, ?_, ?_, fun y hy => ?_⟩, ?_⟩, fun _ => ?_, fun b hb => (o2 b (by omega) (by omega)).trans (q3 b (by omega))⟩
      · rw [upd_eq rfl, List.length_append, List.length_singleton]
        rfl
      · rw [Int.toNat_natCast]
        exact CLU_app t2 c
      · rw [List.length_append, List.length_singleton]
        omega
      · rcases List.mem_append.mp hy with hy | hy
        · exact t4 y hy
        · rw [List.mem_singleton.mp hy]
          exact c1
      · rw [upd_ne (by omega), upd_eq rfl]
      · rw [upd_eq rfl]
  · rw [if_pos c1, tB_0 c1]
    refine wt rfl ?_
    exact no 1 _ (by omega) (by omega) rfl
theorem C_clearText {h : HP} {x : Nat} {A : AB} (e : CLS h x A) : WP (f_X7_clearText h x) (fun r => r.1 = zI A.2.2.2.length ∧ CLS r.2 x (A.1, A.2.1, A.2.2.1, []) ∧ OFF x 311 h r.2) := by
  have g := CLS_g e
  unfold f_X7_clearText b_X7_clearText_0
  refine wb g.1 ?_
  refine wb g.2.1 ?_
  refine wb (X4_length_is (CLS_T e)) ?_
  refine wb g.2.1 ?_
  refine wpb (X4_empty_is (CLS_T e)) ?_
  rintro h1 ⟨q1, q2⟩
  exact wr ⟨rfl, CLS_tx e q2 q1, OFF_wide q2 (by omega)⟩
theorem R_clearText {h : HP} {m : Nat} {v : Nat → Int32} {A : AB} (e : RFV h m v A) : WP (f_X8_clearText h m) (fun r => r.1 = zI A.2.2.2.length ∧ RFS r.2 m (A.1, A.2.1, A.2.2.1, []) ∧ OFF m 9 h r.2) := by
  obtain ⟨t0, f, t1, t2, t3, t4⟩ := e.2.2.2.2.2.2
  unfold f_X8_clearText b_X8_clearText_0
  refine wb (kO_e e.1) ?_
  refine wpb (pI_M e.1 (by omega)) ?_
  rintro h1 ⟨q1, q2⟩
  refine wb (gI_e q1 rfl) ?_
  refine wpb (pI_M q1 (by omega)) ?_
  rintro h2 ⟨q3, q4⟩
  have o := OFF_trans q2 q4
  refine wr ⟨(show upd v 0 0 8 = zI A.2.2.2.length from (upd_ne (by omega)).trans t0), ⟨_, RFV_t e (fun b h1 h2 => o b (by omega)) q3 ((upd_ne (by omega)).trans (upd_ne (by omega))) ⟨upd_eq rfl, f, (o _ (by omega)).trans t1, fun j hj => absurd hj (Nat.not_lt_zero _), Nat.zero_le _, fun c hc => absurd hc List.not_mem_nil⟩⟩, OFF_wide o (by omega)⟩
theorem C_errorPosition {h : HP} {x : Nat} {A : AB} (e : CLS h x A) : f_X7_errorPosition h x = some (zI (errP A.2.2.2)) := by
  have g := CLS_g e
  unfold f_X7_errorPosition b_X7_errorPosition_0
  rw [g.1, Option.bind_some, g.2.1, Option.bind_some, X4_firstError_is (CLS_T e)]
  rfl
theorem R_errorPosition {h : HP} {m : Nat} {v : Nat → Int32} {A : AB} (e : RFV h m v A) : WP (f_X8_errorPosition h m) (fun r => r.1 = zI (errP A.2.2.2) ∧ RFS r.2 m A ∧ OFF m 9 h r.2) := by
  have t := e.2.2.2.2.2.2
  unfold f_X8_errorPosition b_X8_errorPosition_0
  refine wb (kO_e e.1) ?_
  refine wpb (pI_M e.1 (by omega)) ?_
  rintro h1 ⟨q1, q2⟩
  refine wpb (X8_goF_is q1 (RTX_mv t (q2 _ (by omega)) (upd_ne (by omega)))) ?_
  rintro ⟨y, h2⟩ ⟨w, r1, r2, r3, r4, r5⟩
  dsimp only at r1 r2 r3 r4 r5 ⊢
  have o := OFF_trans q2 r3
  have e2 : RFV h2 m w A := RFV_0 e o r1 ((r2 4 (by omega)).trans (upd_ne (by omega))) ((r2 8 (by omega)).trans (upd_ne (by omega)))
  refine wb (gI_e r1 rfl) ?_
  by_cases c : errP A.2.2.2 = -1
  · rw [r4 c]
    refine wt rfl ?_
    exact wr ⟨by rw [c]; rfl, ⟨w, e2⟩, OFF_wide o (by omega)⟩
  · obtain ⟨r6, r7⟩ := r5 c
    rw [r6]
    refine wf (by decide) ?_
    refine wb (gI_e r1 rfl) ?_
    exact wr ⟨r7, ⟨w, e2⟩, OFF_wide o (by omega)⟩
