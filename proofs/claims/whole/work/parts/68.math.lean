/-! commands, on both sides -/
def SML (S : SG) : Prop := S.1.length ≤ 48 ∧ S.2.1.length ≤ 5 ∧ S.2.2.1.length ≤ 2
def GOK (S : SG) (M : Int) : Prop := SOK S M ∧ SML S
theorem GOK_up {S : SG} {M M' : Int} (H : GOK S M) (h : M ≤ M' ∧ M' < 1000000) : GOK S M' := ⟨SOK_up H.1 h, H.2⟩
def cFlush (S : SG) : Option SG := if flF S = 0 then some (flS S) else none
def cMerge (S : SG) (i : Int) : Option SG := if mgF S i = 0 then some (mgS S i) else none
/-- a command by its letter -/
def cmdS (c one two : Int) (S : SG) : Option SG := if c = 112 then cPut S one two else if c = 120 then cBury S one two else if c = 102 then cFlush S else if c = 109 then cMerge S one else if c = 111 then cOpen S else cClose S one
theorem wadd_ok {S : SG} {M : Int} (H : GOK S M) {p q v : Int} (hp : 0 ≤ p ∧ p ≤ q ∧ q ≤ 99) (hv : 0 ≤ v ∧ v ≤ 999) (he : 0 < v → p = q) (hl : S.1.length < 48) (hM : M + 1 < 1000000) : GOK (wadd S p q v) (M + 1) := by
  obtain ⟨⟨h1, h2, h3, h4, h5, h6, h7⟩, h8⟩ := H
  have hmem : ∀ w ∈ (wadd S p q v).1, w ∈ S.1 ∨ w = (S.2.2.2.1 + 1, p, q, v) := fun w hw => by
    rcases List.mem_append.mp hw with hw | hw
    · exact Or.inl hw
    · exact Or.inr (List.mem_singleton.mp hw)
  have hla : (wadd S p q v).1.length = S.1.length + 1 := by
    show (S.1 ++ [_]).length = _
    rw [List.length_append, List.length_singleton]
  refine ⟨⟨fun w hw => ?_, ?_, fun w hw h0 => ?_, fun w hw => ?_, fun e he => ?_, ?_, ?_⟩, ?_⟩
  · rcases hmem w hw with hw | rfl
    · exact h1 w hw
    · unfold WOK
      dsimp only
      omega
  · rw [ORD_pw]
    refine List.pairwise_append.mpr ⟨ORD_pw.mp h2, List.pairwise_singleton _ _, fun x hx y hy => ?_⟩
    rw [List.mem_singleton] at hy
    subst hy
    have := h4 x hx
    unfold LTW
    dsimp only
    omega
  · rcases hmem w hw with hw | rfl
    · exact h3 w hw h0
    · exact he h0
  · show 1 ≤ w.1 ∧ w.1 ≤ S.2.2.2.1 + 1
    rcases hmem w hw with hw | rfl
    · have := h4 w hw
      omega
    · dsimp only
      omega
  · show 0 ≤ e ∧ e ≤ S.2.2.2.1 + 1
    have := h5 e he
    omega
  · show 0 ≤ S.2.2.2.1 + 1 ∧ S.2.2.2.1 + 1 ≤ M + 1 ∧ M + 1 < 1000000
    omega
  · rw [hla]
    refine ⟨fun i hi => ?_, h7.2⟩
    have := h7.1 i hi
    show 0 < iat S.2.1 i ∧ iat S.2.1 i ≤ _
    omega
  · unfold SML at *
    rw [hla]
    show _ ∧ S.2.1.length ≤ 5 ∧ S.2.2.1.length ≤ 2
    omega
theorem mgF_0 {S : SG} {i : Int} (hF : mgF S i = 0) : (0 ≤ i ∧ i + 1 < S.2.1.length) ∧ S.1.length + (mgK S i).length - (eOf S i - sOf S (i + 1)) ≤ 48 := by
  unfold mgF at hF
  split at hF
  · omega
  · split at hF
    · omega
    · split at hF <;> omega
theorem flF_0 {S : SG} (hF : flF S = 0) : (eOf S (-1) - sOf S (-1) ≠ 0 ∧ S.2.1.length ≠ 5) ∧ sOf S (-1) + (flK S).length ≤ 48 := by
  unfold flF at hF
  split at hF
  · omega
  · split at hF <;> omega
theorem cmd_ok {S : SG} {M : Int} (H : GOK S M) (hM : M + 1 < 1000000) {c one two : Int} {T : SG} (h : cmdS c one two S = some T) : GOK T (M + 1) := by
  have hS := H.2
  unfold SML at hS
  have hE := H.1.2.2.2.2.2.2
  unfold cmdS at h
  split at h
  · unfold cPut putF at h
    by_cases c1 : ¬ (0 ≤ one ∧ one ≤ 99)
    · rw [if_pos c1, if_neg (by omega)] at h
      cases h
    · rw [if_neg c1] at h
      by_cases c2 : ¬ (1 ≤ two ∧ two ≤ 999)
      · rw [if_pos c2, if_neg (by omega)] at h
        cases h
      · rw [if_neg c2] at h
        by_cases c3 : S.1.length = 48
        · rw [if_pos c3, if_neg (by omega)] at h
          cases h
        · rw [if_neg c3, if_pos rfl] at h
          obtain rfl := Option.some.inj h
          exact wadd_ok H (by omega) (by omega) (fun _ => rfl) (by omega) hM
  · split at h
    · unfold cBury buryF at h
      by_cases c1 : ¬ (0 ≤ one ∧ one ≤ 99) ∨ ¬ (0 ≤ two ∧ two ≤ 99)
      · rw [if_pos c1, if_neg (by omega)] at h
        cases h
      · rw [if_neg c1] at h
        by_cases c2 : two < one
        · rw [if_pos c2, if_neg (by omega)] at h
          cases h
        · rw [if_neg c2] at h
          by_cases c3 : S.1.length = 48
          · rw [if_pos c3, if_neg (by omega)] at h
            cases h
          · rw [if_neg c3, if_pos rfl] at h
            obtain rfl := Option.some.inj h
            exact wadd_ok H (by omega) (by omega) (fun d => absurd d (by omega)) (by omega) hM
    · split at h
      · unfold cFlush at h
        split at h
        · rename_i c1
          obtain rfl := Option.some.inj h
          refine ⟨SOK_up (flS_ok H.1) (by omega), ?_⟩
          have hp := plc hE (i := -1) (by omega)
          have hm1 := eOf_m1 S
          have h0 := flF_0 c1
          have hl := rep_len (S := S) (nw := -1) (ol := -1) (by omega)
          have hk : (flK S).length = (clP S (-1) (-1)).length := rfl
          unfold SML flS
          dsimp only
          refine ⟨by omega, ?_, by omega⟩
          split
          · rw [List.length_append, List.length_singleton]
            omega
          · omega
        · cases h
      · split at h
        · unfold cMerge at h
          split at h
          · rename_i c1
            obtain rfl := Option.some.inj h
            obtain ⟨h0, h1⟩ := mgF_0 c1
            obtain ⟨p1, p2, p3, p4, p5, p6, p7⟩ := mg_pre hE h0
            refine ⟨SOK_up (mgS_ok H.1 h0) (by omega), ?_⟩
            have hl := rep_len (S := S) (nw := one) (ol := one + 1) (by omega)
            have hk : (mgK S one).length = (clP S one (one + 1)).length := rfl
            have hg : 1 ≤ mgG S one ∧ mgG S one ≤ 2 := by
              unfold mgG
              split <;> omega
            unfold SML mgS
            dsimp only
            rw [mgE_len (by omega)]
            omega
          · cases h
        · split at h
          · unfold cOpen at h
            split at h
            · obtain rfl := Option.some.inj h
              obtain ⟨⟨h1, h2, h3, h4, h5, h6, h7⟩, h8⟩ := H
              refine ⟨⟨h1, h2, h3, h4, fun e he => ?_, by dsimp only; omega, h7⟩, ?_⟩
              · dsimp only at he ⊢
                rcases List.mem_append.mp he with he | he
                · exact h5 e he
                · rw [List.mem_singleton] at he
                  omega
              · unfold SML
                dsimp only
                rw [List.length_append, List.length_singleton]
                omega
            · cases h
          · unfold cClose at h
            split at h
            · obtain rfl := Option.some.inj h
              obtain ⟨⟨h1, h2, h3, h4, h5, h6, h7⟩, h8⟩ := H
              refine ⟨⟨h1, h2, h3, h4, fun e he => ?_, by dsimp only; omega, h7⟩, ?_⟩
              · exact h5 e (List.mem_of_mem_eraseIdx he)
              · unfold SML
                dsimp only
                have := List.length_eraseIdx_le S.2.2.1 one.toNat
                omega
            · cases h
/-- what a try of the class gives -/
def TRY2 (c a cap : Nat) (S : SG) (h : HP) (o : Option SG) (r : Int32 × HP) : Prop := r.1 = tB (o.isSome = true) ∧ STO r.2 c a cap (o.getD S) ∧ CLN r.2 c ∧ FR c a h r.2
theorem TRY_2 {c a cap : Nat} {S : SG} {h : HP} {o : Option SG} {r : Int32 × HP} (e : CLN h c) (hd : a + 8 ≤ c ∨ c + 158 ≤ a) (t : TRY c a cap S h o r) : TRY2 c a cap S h o r := ⟨t.1, t.2.1, CLN_off e t.2.2 (by omega), FR_c t.2.2 (by omega)⟩
theorem X3_tryFlush_is {h : HP} {c a cap : Nat} {S : SG} (e : CLN h c) (s : STO h c a cap S) {M : Int} (H : GOK S M) (hc : 48 ≤ cap) (hd : a + 8 ≤ c ∨ c + 158 ≤ a) : WP (f_X3_tryFlush h a) (TRY2 c a cap S h (cFlush S)) := by
  have hS := H.2
  unfold SML at hS
  have hE := H.1.2.2.2.2.2.2
  have hp := plc hE (i := -1) (by omega)
  have hlen := clP_len H.1 hS.1 hS.2.2 (nw := -1) (ol := -1) (by omega)
  unfold f_X3_tryFlush b_X3_tryFlush_0 cFlush
  refine wb (STO_w s).2.2.1 ?_
  refine wpb (X3_canFlush_is e s H.1 ⟨hS.1, hS.2.1⟩ hd) ?_
  rintro ⟨x, h1⟩ ⟨q1, q2, q3⟩
  dsimp only at q1 q2 q3 ⊢
  subst q1
  have s1 := STO_off s q3 (by omega)
  by_cases c1 : flF S = 0
  · rw [tB_1 c1, if_pos c1]
    refine wf (by decide) ?_
    have h0 := flF_0 c1
    refine wpb (X3_flushMemory_is q2 s1 H.1 (by omega) hd hlen (by omega)) ?_
    rintro ⟨y, h2⟩ ⟨t1, t2, t3, t4⟩
    exact wr ⟨(tB_1 rfl).symm, t2, t3, FR_trans (FR_c q3 (by omega)) t4⟩
  · rw [tB_0 c1, if_neg c1]
    refine wt rfl ?_
    exact wr ⟨(tB_0 (by decide)).symm, s1, q2, FR_c q3 (by omega)⟩
theorem X3_tryMerge_is {h : HP} {c a cap : Nat} {S : SG} (e : CLN h c) (s : STO h c a cap S) {M : Int} (H : GOK S M) (hc : 48 ≤ cap) (hd : a + 8 ≤ c ∨ c + 158 ≤ a) {i : Int} (hi : -2147483648 ≤ i ∧ i < 2147483648) : WP (f_X3_tryMerge h a (zI i)) (TRY2 c a cap S h (cMerge S i)) := by
  have hS := H.2
  unfold SML at hS
  have hE := H.1.2.2.2.2.2.2
  unfold f_X3_tryMerge b_X3_tryMerge_0 cMerge
  refine wb (STO_w s).2.2.1 ?_
  refine wpb (X3_canMerge_is e s H.1 ⟨hS.1, hS.2.1⟩ hd hi) ?_
  rintro ⟨x, h1⟩ ⟨q1, q2, q3⟩
  dsimp only at q1 q2 q3 ⊢
  subst q1
  have s1 := STO_off s q3 (by omega)
  by_cases c1 : mgF S i = 0
  · rw [tB_1 c1, if_pos c1]
    refine wf (by decide) ?_
    obtain ⟨h0, h2⟩ := mgF_0 c1
    obtain ⟨p1, p2, p3, p4, p5, p6, p7⟩ := mg_pre hE h0
    have hlen := clP_len H.1 hS.1 hS.2.2 (nw := i) (ol := i + 1) (by omega)
    refine wpb (X3_mergeRuns_is q2 s1 H.1 (by omega) hd h0 hlen (by omega)) ?_
    rintro ⟨y, h3⟩ ⟨t1, t2, t3, t4⟩
    exact wr ⟨(tB_1 rfl).symm, t2, t3, FR_trans (FR_c q3 (by omega)) t4⟩
  · rw [tB_0 c1, if_neg c1]
    refine wt rfl ?_
    exact wr ⟨(tB_0 (by decide)).symm, s1, q2, FR_c q3 (by omega)⟩
/-! the reference does a command -/
def OF4 (m : Nat) (h h' : HP) : Prop := ∀ b, b ≠ m → b ≠ m + 1 → b ≠ m + 7 → b ≠ m + 8 → h' b = h b
theorem OF4_trans {m : Nat} {h h' h'' : HP} (e : OF4 m h h') (e' : OF4 m h' h'') : OF4 m h h'' := fun b h1 h2 h3 h4 => (e' b h1 h2 h3 h4).trans (e b h1 h2 h3 h4)
theorem OF4_c {m : Nat} {h h' : HP} (e : OFC m h h') : OF4 m h h' := fun b h1 _ h3 h4 => e b h1 h3 h4
theorem OF4_1 {m : Nat} {h h' : HP} (e : OFF (m + 1) 1 h h') : OF4 m h h' := fun b _ h2 _ _ => e b (by omega)
theorem OF4_0 {m : Nat} {h h' : HP} (e : OFF m 1 h h') : OF4 m h h' := fun b h1 _ _ _ => e b (by omega)
theorem ALO_off {h h' : HP} {m a' n' : Nat} (e : ALO h m) (k : OFF a' n' h h') (d : m + 9 ≤ a' ∨ a' + n' ≤ m + 7) : ALO h' m := by
  obtain ⟨⟨g, k3⟩, d', D, k6, k7⟩ := e
  exact ⟨⟨g, (k _ (by omega)).trans k3⟩, d', D, (k _ (by omega)).trans k6, k7⟩
/-- the reference, as it is for a command -/
def DOES (m : Nat) (v : Nat → Int32) (S : SG) (h : HP) (o : Option SG) (r : Int32 × HP) : Prop := r.1 = tB (o.isSome = true) ∧ (∃ x, MOB r.2 m (upd v 10 x)) ∧ REF r.2 m (o.getD S) ∧ ALO r.2 m ∧ OF4 m h r.2
theorem does_no {h : HP} {m : Nat} {v : Nat → Int32} {S : SG} {h0 : HP} {F : Int} {x : Int32} (hx : x = zI F) (hF : F ≠ 0 ∧ -1000 < F ∧ F < 1000) {c : Int32} (e0 : ∃ y, MOB h m (upd v 10 y)) (e : REF h m S) (al : ALO h m) (o : OF4 m h0 h) : WP (b_X8_does_118 m h c x) (DOES m v S h0 none) := by
  unfold b_X8_does_118 b_X8_does_221
  subst hx
  rw [zl0]
  refine wf (fun d => absurd ((zI_inj (by omega)).mp d) (by omega)) ?_
  refine wf (fun d => absurd ((zI_inj (by omega)).mp d) (by omega)) ?_
  exact wr ⟨(tB_0 (by decide)).symm, e0, e, al, o⟩
theorem X8_does_is {h : HP} {m : Nat} {v : Nat → Int32} {S : SG} (e0 : MOB h m v) (e : REF h m S) (al : ALO h m) {M : Int} (H : GOK S M) {c one two : Int} (hc : v 14 = zI c) (h15 : v 15 = zI one) (h16 : v 16 = zI two) (hr : (-2147483648 ≤ c ∧ c < 2147483648) ∧ (-2147483648 ≤ one ∧ one < 2147483648) ∧ -2147483648 ≤ two ∧ two < 2147483648) : WP (f_X8_does h m) (DOES m v S h (cmdS c one two S)) := by
  have hS := H.2
  unfold SML at hS
  have hM := H.1.2.2.2.2.2.1
  have vs : MOB h m (upd v 10 (v 10)) := by
    rw [upd_self]
    exact e0
  have o0 : OF4 m h h := fun _ _ _ _ _ => rfl
  have hb := REF_b e
  unfold f_X8_does b_X8_does_0 cmdS
  simp only [show (112 : Int32) = zI 112 by decide, show (120 : Int32) = zI 120 by decide, show (102 : Int32) = zI 102 by decide, show (109 : Int32) = zI 109 by decide, show (111 : Int32) = zI 111 by decide]
  refine wb hb.2 ?_
  refine wb (gI_e e0 rfl) ?_
  rw [hc]
  by_cases c1 : c = 112
  · rw [if_pos c1]
    refine wt ((zI_inj (by omega)).mpr c1) ?_
    refine wb (gI_e e0 rfl) ?_
    refine wb (gI_e e0 rfl) ?_
    rw [h15, h16]
    refine wb (X8_putFault_is e hr.2.1 hr.2.2) ?_
    by_cases c2 : putF S one two = 0
    · have h48 : S.1.length ≠ 48 := fun d => by
        unfold putF at c2
        split at c2
        · omega
        · split at c2
          · omega
          · omega
      have hcp : cPut S one two = some (wadd S one one two) := by
        unfold cPut
        rw [if_pos c2]
      rw [hcp, c2, c1]
      unfold b_X8_does_118 b_X8_does_221
      simp only [show (112 : Int32) = zI 112 by decide]
      refine wt (by first | trivial | rfl) ?_
      refine wt (by first | trivial | rfl) ?_
      refine wb (gI_e e0 rfl) ?_
      refine wb (gI_e e0 rfl) ?_
      refine wb (gI_e e0 rfl) ?_
      rw [h15, h16]
      refine wpb (X8_writes_is e (by omega) one one two) ?_
      rintro ⟨x, h1⟩ ⟨q1, q2, q3⟩
      refine wt (by first | trivial | rfl) ?_
      exact wr ⟨(tB_1 rfl).symm, ⟨_, (q3 _ (by omega)).trans vs⟩, q2, ALO_off al q3 (by omega), OF4_1 q3⟩
    · have hcp : cPut S one two = none := by
        unfold cPut
        rw [if_neg c2]
      have hrng : -1000 < putF S one two ∧ putF S one two < 1000 := by
        unfold putF
        split
        · omega
        · split
          · omega
          · split <;> omega
      rw [hcp]
      exact does_no rfl ⟨c2, hrng⟩ ⟨_, vs⟩ e al o0
  · rw [if_neg c1]
    refine wf (fun d => c1 ((zI_inj (by omega)).mp d)) ?_
    by_cases c2 : c = 120
    · rw [if_pos c2]
      refine wt ((zI_inj (by omega)).mpr c2) ?_
      refine wb (gI_e e0 rfl) ?_
      refine wb (gI_e e0 rfl) ?_
      rw [h15, h16]
      refine wb (X8_buryFault_is e hr.2.1 hr.2.2) ?_
      by_cases c3 : buryF S one two = 0
      · have h48 : S.1.length ≠ 48 ∧ (0 ≤ one ∧ one ≤ two) ∧ two < 100 := by
          unfold buryF at c3
          split at c3
          · omega
          · split at c3
            · omega
            · split at c3
              · omega
              · omega
        have hcp : cBury S one two = some (wadd S one two 0) := by
          unfold cBury
          rw [if_pos c3]
        rw [hcp, c3, c2]
        unfold b_X8_does_118 b_X8_does_221
        simp only [show (112 : Int32) = zI 112 by decide, show (120 : Int32) = zI 120 by decide]
        refine wt (by first | trivial | rfl) ?_
        refine wf (fun d => absurd ((zI_inj (by omega)).mp d) (by omega)) ?_
        refine wt (by first | trivial | rfl) ?_
        refine wb (gI_e e0 rfl) ?_
        refine wb (gI_e e0 rfl) ?_
        rw [h15, h16]
        refine wpb (X8_buries_is e H.1.1 H.1.2.1 (SOK_Y H.1) (by omega) hM.2.2 h48.2.1 h48.2.2 (by omega)) ?_
        rintro ⟨x, h1⟩ ⟨q1, q2, q3⟩
        refine wt (by first | trivial | rfl) ?_
        exact wr ⟨(tB_1 rfl).symm, ⟨_, (q3 _ (by omega)).trans vs⟩, q2, ALO_off al q3 (by omega), OF4_1 q3⟩
      · have hcp : cBury S one two = none := by
          unfold cBury
          rw [if_neg c3]
        have hrng : -1000 < buryF S one two ∧ buryF S one two < 1000 := by
          unfold buryF
          split
          · omega
          · split
            · omega
            · split <;> omega
        rw [hcp]
        exact does_no rfl ⟨c3, hrng⟩ ⟨_, vs⟩ e al o0
    · rw [if_neg c2]
      refine wf (fun d => c2 ((zI_inj (by omega)).mp d)) ?_
      by_cases c3 : c = 102
      · rw [if_pos c3]
        refine wt ((zI_inj (by omega)).mpr c3) ?_
        refine wpb (X8_flushFault_is e e0 al H.1) ?_
        rintro ⟨x, h1⟩ ⟨q1, ⟨y, q2, q3⟩, q4, q5, q6⟩
        dsimp only at q1 q2 q3 q4 q5 q6 ⊢
        subst q1
        by_cases c4 : flF S = 0
        · have hcp : cFlush S = some (flS S) := by
            unfold cFlush
            rw [if_pos c4]
          obtain ⟨D, q7⟩ := q3 c4
          rw [hcp, c4, c3]
          unfold b_X8_does_118 b_X8_does_221
          simp only [show (112 : Int32) = zI 112 by decide, show (120 : Int32) = zI 120 by decide, show (102 : Int32) = zI 102 by decide]
          refine wt (by first | trivial | rfl) ?_
          refine wf (fun d => absurd ((zI_inj (by omega)).mp d) (by omega)) ?_
          refine wf (fun d => absurd ((zI_inj (by omega)).mp d) (by omega)) ?_
          refine wt (by first | trivial | rfl) ?_
          refine wpb (X8_flushes_is q7 H.1 c4) ?_
          rintro ⟨z, h2⟩ ⟨t1, t2, t3, t4⟩
          refine wt (by first | trivial | rfl) ?_
          exact wr ⟨(tB_1 rfl).symm, ⟨_, t3⟩, t2, ALO_off q5 t4 (by omega), OF4_trans (OF4_c q6) (OF4_1 t4)⟩
        · have hcp : cFlush S = none := by
            unfold cFlush
            rw [if_neg c4]
          have hrng : -1000 < flF S ∧ flF S < 1000 := by
            unfold flF
            split
            · omega
            · split <;> omega
          rw [hcp]
          exact does_no rfl ⟨c4, hrng⟩ ⟨_, q2⟩ q4 q5 (OF4_c q6)
      · rw [if_neg c3]
        refine wf (fun d => c3 ((zI_inj (by omega)).mp d)) ?_
        by_cases c4 : c = 109
        · rw [if_pos c4]
          refine wt ((zI_inj (by omega)).mpr c4) ?_
          refine wb (gI_e e0 rfl) ?_
          rw [h15]
          refine wpb (X8_mergeFault_is e e0 al H.1 hr.2.1) ?_
          rintro ⟨x, h1⟩ ⟨q1, ⟨y, q2, q3⟩, q4, q5, q6⟩
          dsimp only at q1 q2 q3 q4 q5 q6 ⊢
          subst q1
          by_cases c5 : mgF S one = 0
          · have hcp : cMerge S one = some (mgS S one) := by
              unfold cMerge
              rw [if_pos c5]
            obtain ⟨D, q7⟩ := q3 c5
            rw [hcp, c5, c4]
            unfold b_X8_does_118 b_X8_does_221
            simp only [show (112 : Int32) = zI 112 by decide, show (120 : Int32) = zI 120 by decide, show (102 : Int32) = zI 102 by decide, show (109 : Int32) = zI 109 by decide]
            refine wt (by first | trivial | rfl) ?_
            refine wf (fun d => absurd ((zI_inj (by omega)).mp d) (by omega)) ?_
            refine wf (fun d => absurd ((zI_inj (by omega)).mp d) (by omega)) ?_
            refine wf (fun d => absurd ((zI_inj (by omega)).mp d) (by omega)) ?_
            refine wt (by first | trivial | rfl) ?_
            refine wb (gI_e q2 rfl) ?_
            rw [upd_ne (by omega), h15]
            refine wpb (X8_merges_is q7 H.1 c5) ?_
            rintro ⟨z, h2⟩ ⟨t1, t2, t3, t4⟩
            refine wt (by first | trivial | rfl) ?_
            exact wr ⟨(tB_1 rfl).symm, ⟨_, t3⟩, t2, ALO_off q5 t4 (by omega), OF4_trans (OF4_c q6) (OF4_1 t4)⟩
          · have hcp : cMerge S one = none := by
              unfold cMerge
              rw [if_neg c5]
            have hrng : -1000 < mgF S one ∧ mgF S one < 1000 := by
              unfold mgF
              split
              · omega
              · split
                · omega
                · split <;> omega
            rw [hcp]
            exact does_no rfl ⟨c5, hrng⟩ ⟨_, q2⟩ q4 q5 (OF4_c q6)
        · rw [if_neg c4]
          refine wf (fun d => c4 ((zI_inj (by omega)).mp d)) ?_
          by_cases c5 : c = 111
          · rw [if_pos c5]
            refine wt ((zI_inj (by omega)).mpr c5) ?_
            obtain ⟨f, -, k1, ⟨b, u0, u1, u2, u3, u4, u5, u6, u7⟩⟩ := REF_MOB e e0
            simp only [show (7 : Int32) = zI 7 by decide, show (2 : Int32) = zI 2 by decide]
            refine wb (gR_e e0 rfl) ?_
            refine wb (aI_v k1 (z := 7) (by omega) u3) ?_
            unfold cOpen
            by_cases c6 : S.2.2.1.length < 2
            · refine wf (fun d => absurd ((zI_inj (by omega)).mp d) (by omega)) ?_
              rw [if_pos c6, c5]
              unfold b_X8_does_118 b_X8_does_221
              simp only [show (112 : Int32) = zI 112 by decide, show (120 : Int32) = zI 120 by decide, show (102 : Int32) = zI 102 by decide, show (109 : Int32) = zI 109 by decide, show (111 : Int32) = zI 111 by decide]
              refine wt (by first | trivial | rfl) ?_
              refine wf (fun d => absurd ((zI_inj (by omega)).mp d) (by omega)) ?_
              refine wf (fun d => absurd ((zI_inj (by omega)).mp d) (by omega)) ?_
              refine wf (fun d => absurd ((zI_inj (by omega)).mp d) (by omega)) ?_
              refine wf (fun d => absurd ((zI_inj (by omega)).mp d) (by omega)) ?_
              refine wt (by first | trivial | rfl) ?_
              refine wpb (X8_opens_is e c6) ?_
              rintro ⟨x, h1⟩ ⟨q1, q2, q3⟩
              refine wt (by first | trivial | rfl) ?_
              exact wr ⟨(tB_1 rfl).symm, ⟨_, (q3 _ (by omega)).trans vs⟩, q2, ALO_off al q3 (by omega), OF4_1 q3⟩
            · refine wt ((zI_inj (by omega)).mpr (by omega)) ?_
              rw [if_neg c6]
              exact does_no (F := 1) rfl (by omega) ⟨_, vs⟩ e al o0
          · rw [if_neg c5]
            refine wf (fun d => c5 ((zI_inj (by omega)).mp d)) ?_
            refine wb (gI_e e0 rfl) ?_
            rw [h15]
            refine wb (X8_isEye_is e hr.2.1) ?_
            unfold cClose
            by_cases c6 : 0 ≤ one ∧ one < S.2.2.1.length
            · rw [tB_1 c6, if_pos c6]
              refine wf (by decide) ?_
              unfold b_X8_does_118 b_X8_does_221
              simp only [show (112 : Int32) = zI 112 by decide, show (120 : Int32) = zI 120 by decide, show (102 : Int32) = zI 102 by decide, show (109 : Int32) = zI 109 by decide, show (111 : Int32) = zI 111 by decide]
              refine wt (by first | trivial | rfl) ?_
              refine wf (fun d => c1 ((zI_inj (by omega)).mp d)) ?_
              refine wf (fun d => c2 ((zI_inj (by omega)).mp d)) ?_
              refine wf (fun d => c3 ((zI_inj (by omega)).mp d)) ?_
              refine wf (fun d => c4 ((zI_inj (by omega)).mp d)) ?_
              refine wf (fun d => c5 ((zI_inj (by omega)).mp d)) ?_
              refine wb (gI_e e0 rfl) ?_
              rw [h15]
              refine wpb (X8_closes_is e c6) ?_
              rintro ⟨x, h1⟩ ⟨q1, q2, q3⟩
              refine wt (by first | trivial | rfl) ?_
              exact wr ⟨(tB_1 rfl).symm, ⟨_, (q3 _ (by omega)).trans vs⟩, q2, ALO_off al q3 (by omega), OF4_1 q3⟩
            · rw [tB_0 c6, if_neg c6]
              refine wt (by first | trivial | rfl) ?_
              exact does_no (F := 1) rfl (by omega) ⟨_, vs⟩ e al o0
