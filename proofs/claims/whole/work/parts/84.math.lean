/-! long numbers -/
def zJ (n : Nat) : Int64 := Int64.ofNat n
theorem zJ_int {n : Nat} (h : n < 9223372036854775808) : (zJ n).toInt = n := Int64.toInt_ofNat_of_lt h
theorem zJ_of {x : Int64} (h : 0 ≤ x.toInt) : x = zJ x.toInt.toNat ∧ x.toInt.toNat < 9223372036854775808 := by
  have h1 := Int64.toInt_lt x
  have h2 : x.toInt.toNat < 9223372036854775808 := by omega
  refine ⟨?_, h2⟩
  apply Int64.toInt_inj.mp
  rw [zJ_int h2]
  omega
theorem bm64 {z : Int} (h : -9223372036854775808 ≤ z ∧ z < 9223372036854775808) : z.bmod 18446744073709551616 = z := by
  rw [Int.bmod_eq_of_le] <;> omega
theorem zJ_div {a b : Nat} (ha : a < 9223372036854775808) (hb : 0 < b ∧ b < 9223372036854775808) : zJ a / zJ b = zJ (a / b) := by
  have h1 : a / b ≤ a := Nat.div_le_self _ _
  apply Int64.toInt_inj.mp
  rw [Int64.toInt_div, zJ_int ha, zJ_int hb.2, zJ_int (by omega)]
  have h2 : (a : Int).tdiv (b : Int) = ((a / b : Nat) : Int) := rfl
  rw [h2]
  generalize a / b = c at *
  exact bm64 (by omega)
theorem zJ_rem {a b : Nat} (ha : a < 9223372036854775808) (hb : 0 < b ∧ b < 9223372036854775808) : jlrem (zJ a) (zJ b) = zJ (a % b) := by
  have h1 : a / b ≤ a := Nat.div_le_self _ _
  have h2 := Nat.div_add_mod a b
  have h3 : a / b * b ≤ a := Nat.div_mul_le_self _ _
  have h4 : b * (a / b) = a / b * b := Nat.mul_comm _ _
  have h5 := Nat.mod_lt a hb.1
  unfold jlrem
  rw [zJ_div ha hb]
  apply Int64.toInt_inj.mp
  rw [Int64.toInt_sub, Int64.toInt_mul, zJ_int ha, zJ_int hb.2, zJ_int (by omega), zJ_int (by omega)]
  have h6 : ((a / b : Nat) : Int) * (b : Int) = ((a / b * b : Nat) : Int) := by push_cast; rfl
  rw [h6, bm64 (z := ((a / b * b : Nat) : Int)) (by omega), bm64 (by omega)]
  omega
theorem zJ_32 {n : Nat} (h : n < 2147483648) : Int64.toInt32 (zJ n) = zI n := by
  apply Int32.toInt_inj.mp
  rw [Int64.toInt_toInt32, zJ_int (by omega), zI_toInt (by omega)]
  rw [Int.bmod_eq_of_le] <;> omega
theorem lg_neg (x : Int64) : lg_cmp x 0 < 0 ↔ x.toInt < 0 := by
  have h0 : (0 : Int64).toInt = 0 := rfl
  unfold lg_cmp
  by_cases c1 : x > 0
  · rw [if_pos c1]
    have := Int64.lt_iff_toInt_lt.mp c1
    rw [h0] at this
    constructor
    · intro d
      exact absurd d (by decide)
    · intro d
      omega
  · rw [if_neg c1]
    have h1 : ¬ 0 < x.toInt := fun d => c1 (Int64.lt_iff_toInt_lt.mpr (by rw [h0]; exact d))
    by_cases c2 : x = 0
    · rw [if_pos c2]
      subst c2
      decide
    · rw [if_neg c2]
      have h2 : x.toInt ≠ 0 := fun d => c2 (Int64.toInt_inj.mp (by rw [h0]; exact d))
      constructor
      · intro _
        omega
      · intro _
        decide
theorem lg_le {a b : Nat} (ha : a < 9223372036854775808) (hb : b < 9223372036854775808) : lg_cmp (zJ a) (zJ b) ≤ 0 ↔ a ≤ b := by
  unfold lg_cmp
  by_cases c1 : zJ a > zJ b
  · rw [if_pos c1]
    have := Int64.lt_iff_toInt_lt.mp c1
    rw [zJ_int ha, zJ_int hb] at this
    constructor
    · intro d
      exact absurd d (by decide)
    · intro d
      omega
  · rw [if_neg c1]
    have h1 : ¬ b < a := fun d => c1 (Int64.lt_iff_toInt_lt.mpr (by rw [zJ_int ha, zJ_int hb]; omega))
    constructor
    · intro _
      omega
    · intro _
      split <;> decide
/-! scripts -/
/-- a number of five digits as a command or a question: the state then, or none -/
def doG (S : SG) (g : Nat) : Option SG :=
  if g / 10000 = 1 then cPut S (g / 100 % 100 : Nat) (g % 100 : Nat)
  else if g / 10000 = 2 then cBury S (g / 100 % 100 : Nat) (g % 100 : Nat)
  else if g / 10000 = 3 then (if g % 10000 = 0 then cFlush S else none)
  else if g / 10000 = 4 then (if g % 1000 = 0 then cMerge S (g / 1000 % 10 : Nat) else none)
  else if g / 10000 = 5 then (if g % 10000 = 0 then cOpen S else none)
  else if g / 10000 = 6 then (if g % 1000 = 0 then cClose S (g / 1000 % 10 : Nat) else none)
  else if g / 10000 = 7 then (if vw S (g / 100 % 100 : Nat) (-1) = (g % 100 : Nat) then some S else none)
  else if g / 10000 = 8 then (if g / 100 % 100 = 0 then (if S.1.length ≤ g % 100 then some S else none) else none)
  else if g / 10000 = 9 then (if g % 10 = 0 then (if g / 1000 % 10 < S.2.2.1.length then (if vw S (g / 10 % 100 : Nat) (g / 1000 % 10 : Nat) ≠ 0 then some S else none) else none) else none)
  else none
theorem doG_ok {S : SG} {M : Int} (H : GOK S M) (hM : M + 1 < 1000000) (g : Nat) : GOK ((doG S g).getD S) (M + 1) := by
  have h0 : GOK S (M + 1) := GOK_up H (by omega)
  have hc : ∀ (c one two : Int) (o : Option SG), cmdS c one two S = o → GOK (o.getD S) (M + 1) := fun c one two o h => by
    rw [← h]
    exact getD_ok H hM c one two
  unfold doG
  by_cases c1 : g / 10000 = 1
  · rw [if_pos c1]
    exact hc 112 _ _ _ rfl
  · rw [if_neg c1]
    by_cases c2 : g / 10000 = 2
    · rw [if_pos c2]
      exact hc 120 _ _ _ rfl
    · rw [if_neg c2]
      by_cases c3 : g / 10000 = 3
      · rw [if_pos c3]
        by_cases d0 : g % 10000 = 0
        · rw [if_pos d0]
          exact hc 102 0 0 _ rfl
        · rw [if_neg d0]
          exact h0
      · rw [if_neg c3]
        by_cases c4 : g / 10000 = 4
        · rw [if_pos c4]
          by_cases d0 : g % 1000 = 0
          · rw [if_pos d0]
            exact hc 109 _ 0 _ rfl
          · rw [if_neg d0]
            exact h0
        · rw [if_neg c4]
          by_cases c5 : g / 10000 = 5
          · rw [if_pos c5]
            by_cases d0 : g % 10000 = 0
            · rw [if_pos d0]
              exact hc 111 0 0 _ rfl
            · rw [if_neg d0]
              exact h0
          · rw [if_neg c5]
            by_cases c6 : g / 10000 = 6
            · rw [if_pos c6]
              by_cases d0 : g % 1000 = 0
              · rw [if_pos d0]
                exact hc 99 _ 0 _ rfl
              · rw [if_neg d0]
                exact h0
            · rw [if_neg c6]
              by_cases c7 : g / 10000 = 7
              · rw [if_pos c7]
                by_cases d0 : vw S (g / 100 % 100 : Nat) (-1) = (g % 100 : Nat)
                · rw [if_pos d0]
                  exact h0
                · rw [if_neg d0]
                  exact h0
              · rw [if_neg c7]
                by_cases c8 : g / 10000 = 8
                · rw [if_pos c8]
                  by_cases d0 : g / 100 % 100 = 0
                  · rw [if_pos d0]
                    by_cases d1 : S.1.length ≤ g % 100
                    · rw [if_pos d1]
                      exact h0
                    · rw [if_neg d1]
                      exact h0
                  · rw [if_neg d0]
                    exact h0
                · rw [if_neg c8]
                  by_cases c9 : g / 10000 = 9
                  · rw [if_pos c9]
                    by_cases d0 : g % 10 = 0
                    · rw [if_pos d0]
                      by_cases d1 : g / 1000 % 10 < S.2.2.1.length
                      · rw [if_pos d1]
                        by_cases d2 : vw S (g / 10 % 100 : Nat) (g / 1000 % 10 : Nat) ≠ 0
                        · rw [if_pos d2]
                          exact h0
                        · rw [if_neg d2]
                          exact h0
                      · rw [if_neg d1]
                        exact h0
                    · rw [if_neg d0]
                      exact h0
                  · rw [if_neg c9]
                    exact h0
theorem zI_div {a b : Nat} (ha : a < 2147483648) (hb : 0 < b ∧ b < 2147483648) : zI a / zI b = zI (a / b : Nat) := by
  rw [← zI_nat, ← zI_nat, ← zI_nat]
  exact pk_div (by omega) hb.1 (by omega)
theorem zIn {a b : Nat} (ha : a < 2147483648) (hb : b < 2147483648) : zI a = zI b ↔ a = b := by
  rw [zI_inj (by omega)]
  omega
/-- the class tries a group on its trial store -/
theorem C_group {h : HP} {x : Nat} {A : AB} (e : CLS h x A) {S : SG} (s : STO h (x + 1) (x + 169) 148 S) {M : Int} (H : GOK S M) {g : Nat} (hg : g < 100000) : WP (f_X7_doGroup h x (zI g)) (fun r => r.1 = tB ((doG S g).isSome = true) ∧ CLS r.2 x A ∧ STO r.2 (x + 1) (x + 169) 148 ((doG S g).getD S) ∧ OFF x 311 h r.2) := by
  have gg := CLS_g e
  have hS := H.2
  unfold SML at hS
  have hMM := H.1.2.2.2.2.2.1
  have tr : ∀ {f : Option (Int32 × HP)} {o : Option SG}, WP f (TRY (x + 1) (x + 169) 148 S h o) → WP f (fun r => r.1 = tB (o.isSome = true) ∧ CLS r.2 x A ∧ STO r.2 (x + 1) (x + 169) 148 (o.getD S) ∧ OFF x 311 h r.2) := by
    intro f o hf
    refine wm hf ?_
    rintro ⟨z, h1⟩ ⟨q1, q2, q3⟩
    exact ⟨q1, CLS_tr e (FR_c q3 (by omega)) (CLN_off e.2.1 q3 (by omega)) q2, q2, OFF_wide q3 (by omega)⟩
  have tr2 : ∀ {f : Option (Int32 × HP)} {o : Option SG}, WP f (TRY2 (x + 1) (x + 169) 148 S h o) → WP f (fun r => r.1 = tB (o.isSome = true) ∧ CLS r.2 x A ∧ STO r.2 (x + 1) (x + 169) 148 (o.getD S) ∧ OFF x 311 h r.2) := by
    intro f o hf
    refine wm hf ?_
    rintro ⟨z, h1⟩ ⟨q1, q2, q3, q4⟩
    exact ⟨q1, CLS_tr e q4 q3 q2, q2, fun b hb => q4 b (by omega) (by omega)⟩
  have bzz : ∀ {f : Option (Int32 × HP)} {o : Option SG}, WP f (fun r => r.1 = tB (o.isSome = true) ∧ CLS r.2 x A ∧ STO r.2 (x + 1) (x + 169) 148 (o.getD S) ∧ OFF x 311 h r.2) → WP (f.bind fun y7 => (bz y7.1).bind fun x8 => some (x8, y7.2)) (fun r => r.1 = tB (o.isSome = true) ∧ CLS r.2 x A ∧ STO r.2 (x + 1) (x + 169) 148 (o.getD S) ∧ OFF x 311 h r.2) := by
    intro f o hf
    refine wpb hf ?_
    rintro ⟨z, h1⟩ ⟨q1, q2, q3, q4⟩
    dsimp only at q1 q2 q3 q4 ⊢
    subst q1
    refine wb bz_tB ?_
    exact wr ⟨rfl, q2, q3, q4⟩
  have if01 : ∀ {f : Option (Int32 × HP)} {o : Option SG}, WP f (fun r => r.1 = tB (o.isSome = true) ∧ CLS r.2 x A ∧ STO r.2 (x + 1) (x + 169) 148 (o.getD S) ∧ OFF x 311 h r.2) → WP (f.bind fun y12 => if y12.1 = 0 then some ((0 : Int32), y12.2) else some (1, y12.2)) (fun r => r.1 = tB (o.isSome = true) ∧ CLS r.2 x A ∧ STO r.2 (x + 1) (x + 169) 148 (o.getD S) ∧ OFF x 311 h r.2) := by
    intro f o hf
    refine wpb hf ?_
    rintro ⟨z, h1⟩ ⟨q1, q2, q3, q4⟩
    dsimp only at q1 q2 q3 q4 ⊢
    subst q1
    by_cases c : o.isSome = true
    · rw [tB_1 c]
      refine wf (by decide) ?_
      exact wr ⟨rfl, q2, q3, q4⟩
    · rw [tB_0 c]
      refine wt rfl ?_
      exact wr ⟨rfl, q2, q3, q4⟩
  have yes : WP (some ((1 : Int32), h)) (fun r => r.1 = tB ((some S).isSome = true) ∧ CLS r.2 x A ∧ STO r.2 (x + 1) (x + 169) 148 ((some S).getD S) ∧ OFF x 311 h r.2) := wr ⟨(tB_1 (show (some S).isSome = true from rfl)).symm, e, s, OFF_refl _ _ _⟩
  have no : WP (some ((0 : Int32), h)) (fun r => r.1 = tB ((none : Option SG).isSome = true) ∧ CLS r.2 x A ∧ STO r.2 (x + 1) (x + 169) 148 ((none : Option SG).getD S) ∧ OFF x 311 h r.2) := wr ⟨(tB_0 (by simp)).symm, e, s, OFF_refl _ _ _⟩
  have vf : ∀ (k : Nat) (i : Int), k < 100 → f_X3_valueFor h (x + 169) (zI k) (zI (lim S i)) = some (zI (vw S k i)) := fun k i hk => by
    have hr := lim_rng (SOK_Y H.1) ⟨hMM.1, hMM.2.1⟩ i
    exact X3_valueFor_is s H.1.1 (by omega) (by omega)
  unfold f_X7_doGroup b_X7_doGroup_0 doG
  refine wb gg.1 ?_
  simp only [show (10000 : Int32) = zI (10000 : Nat) by decide, show (1000 : Int32) = zI (1000 : Nat) by decide, show (100 : Int32) = zI (100 : Nat) by decide, show (10 : Int32) = zI (10 : Nat) by decide, show (2 : Int32) = zI (2 : Nat) by decide, show (3 : Int32) = zI (3 : Nat) by decide, show (4 : Int32) = zI (4 : Nat) by decide, show (5 : Int32) = zI (5 : Nat) by decide, show (6 : Int32) = zI (6 : Nat) by decide, show (7 : Int32) = zI (7 : Nat) by decide, show (8 : Int32) = zI (8 : Nat) by decide, show (9 : Int32) = zI (9 : Nat) by decide]
  rw [zI_div (a := g) (b := 10000) (by omega) (by omega), zI_div (a := g) (b := 1000) (by omega) (by omega), zI_div (a := g) (b := 100) (by omega) (by omega), zI_jrem (a := g) (b := 10000) (by omega) (by omega), zI_jrem (a := g) (b := 1000) (by omega) (by omega), zI_jrem (a := g) (b := 100) (by omega) (by omega), zI_jrem (a := g) (b := 10) (by omega) (by omega), zI_jrem (a := g / 1000) (b := 10) (by omega) (by omega), zI_jrem (a := g / 100) (b := 100) (by omega) (by omega), zI_div (a := g % 1000) (b := 10) (by omega) (by omega)]
  have hv := fun (k i : Int) => vw_rng H.1 k i
  by_cases c1 : g / 10000 = 1
  · rw [if_pos c1]
    refine wt ((zIn (b := 1) (by omega) (by omega)).mpr c1) ?_
    refine wb gg.2.2.2.1 ?_
    exact bzz (tr (X3_tryPut_is s (by omega) hS.1 (by omega) (by omega)))
  · rw [if_neg c1]
    refine wf (fun b => c1 ((zIn (by omega) (by omega)).mp b)) ?_
    by_cases c2 : g / 10000 = 2
    · rw [if_pos c2]
      refine wt ((zIn (b := 2) (by omega) (by omega)).mpr c2) ?_
      refine wb gg.2.2.2.1 ?_
      exact bzz (tr (X3_tryBury_is s (by omega) hS.1 (by omega) (by omega)))
    · rw [if_neg c2]
      refine wf (fun b => c2 ((zIn (by omega) (by omega)).mp b)) ?_
      by_cases c3 : g / 10000 = 3
      · rw [if_pos c3]
        refine wt ((zIn (b := 3) (by omega) (by omega)).mpr c3) ?_
        by_cases d : g % 10000 = 0
        · rw [if_pos d]
          refine wt ((zIn (b := 0) (by omega) (by omega)).mpr d) ?_
          refine wb gg.2.2.2.1 ?_
          exact if01 (tr2 (X3_tryFlush_is e.2.1 s H (by omega) (by omega)))
        · rw [if_neg d]
          refine wf (fun b => d ((zIn (by omega) (by omega)).mp b)) ?_
          exact no
      · rw [if_neg c3]
        refine wf (fun b => c3 ((zIn (by omega) (by omega)).mp b)) ?_
        by_cases c4 : g / 10000 = 4
        · rw [if_pos c4]
          refine wt ((zIn (b := 4) (by omega) (by omega)).mpr c4) ?_
          by_cases d : g % 1000 = 0
          · rw [if_pos d]
            refine wt ((zIn (b := 0) (by omega) (by omega)).mpr d) ?_
            refine wb gg.2.2.2.1 ?_
            exact if01 (tr2 (X3_tryMerge_is e.2.1 s H (by omega) (by omega) (by omega)))
          · rw [if_neg d]
            refine wf (fun b => d ((zIn (by omega) (by omega)).mp b)) ?_
            exact no
        · rw [if_neg c4]
          refine wf (fun b => c4 ((zIn (by omega) (by omega)).mp b)) ?_
          by_cases c5 : g / 10000 = 5
          · rw [if_pos c5]
            refine wt ((zIn (b := 5) (by omega) (by omega)).mpr c5) ?_
            by_cases d : g % 10000 = 0
            · rw [if_pos d]
              refine wt ((zIn (b := 0) (by omega) (by omega)).mpr d) ?_
              refine wb gg.2.2.2.1 ?_
              exact if01 (tr (X3_tryOpen_is s))
            · rw [if_neg d]
              refine wf (fun b => d ((zIn (by omega) (by omega)).mp b)) ?_
              exact no
          · rw [if_neg c5]
            refine wf (fun b => c5 ((zIn (by omega) (by omega)).mp b)) ?_
            by_cases c6 : g / 10000 = 6
            · rw [if_pos c6]
              refine wt ((zIn (b := 6) (by omega) (by omega)).mpr c6) ?_
              by_cases d : g % 1000 = 0
              · rw [if_pos d]
                refine wt ((zIn (b := 0) (by omega) (by omega)).mpr d) ?_
                refine wb gg.2.2.2.1 ?_
                exact if01 (tr (X3_tryClose_is s (by omega)))
              · rw [if_neg d]
                refine wf (fun b => d ((zIn (by omega) (by omega)).mp b)) ?_
                exact no
            · rw [if_neg c6]
              refine wf (fun b => c6 ((zIn (by omega) (by omega)).mp b)) ?_
              by_cases c7 : g / 10000 = 7
              · rw [if_pos c7]
                refine wt ((zIn (b := 7) (by omega) (by omega)).mpr c7) ?_
                refine wb gg.2.2.2.1 ?_
                refine wb gg.2.2.2.1 ?_
                refine wb (X3_latest_is s) ?_
                rw [← lim_m1 S]
                refine wb (vf _ (-1) (by omega)) ?_
                have hv1 := hv ((g / 100 % 100 : Nat) : Int) (-1)
                by_cases d : vw S (g / 100 % 100 : Nat) (-1) = (g % 100 : Nat)
                · rw [if_pos d]
                  refine wt ((zI_inj (by omega)).mpr d) ?_
                  exact yes
                · rw [if_neg d]
                  refine wf (fun b => d ((zI_inj (by omega)).mp b)) ?_
                  exact no
              · rw [if_neg c7]
                refine wf (fun b => c7 ((zIn (by omega) (by omega)).mp b)) ?_
                by_cases c8 : g / 10000 = 8
                · rw [if_pos c8]
                  refine wt ((zIn (b := 8) (by omega) (by omega)).mpr c8) ?_
                  by_cases d : g / 100 % 100 = 0
                  · rw [if_pos d]
                    refine wt ((zIn (b := 0) (by omega) (by omega)).mpr d) ?_
                    refine wb gg.2.2.2.1 ?_
                    refine wb (X3_size_is s) ?_
                    by_cases d1 : S.1.length ≤ g % 100
                    · rw [if_pos d1]
                      refine wf (fun b => absurd ((zI_lt (by omega)).mp b) (by omega)) ?_
                      exact yes
                    · rw [if_neg d1]
                      refine wt ((zI_lt (by omega)).mpr (by omega)) ?_
                      exact no
                  · rw [if_neg d]
                    refine wf (fun b => d ((zIn (by omega) (by omega)).mp b)) ?_
                    exact no
                · rw [if_neg c8]
                  refine wf (fun b => c8 ((zIn (by omega) (by omega)).mp b)) ?_
                  by_cases c9 : g / 10000 = 9
                  · rw [if_pos c9]
                    refine wt ((zIn (b := 9) (by omega) (by omega)).mpr c9) ?_
                    by_cases d : g % 10 = 0
                    · rw [if_pos d]
                      refine wt ((zIn (b := 0) (by omega) (by omega)).mpr d) ?_
                      refine wb gg.2.2.2.1 ?_
                      refine wb (X3_isEye_is s (by omega)) ?_
                      by_cases d1 : g / 1000 % 10 < S.2.2.1.length
                      · rw [if_pos d1, tB_1 (by omega)]
                        refine wf (by decide) ?_
                        refine wb gg.2.2.2.1 ?_
                        refine wb gg.2.2.2.1 ?_
                        refine wb (X3_limitOf_is s (by omega)) ?_
                        rw [show g % 1000 / 10 = g / 10 % 100 by omega]
                        refine wb (vf _ _ (by omega)) ?_
                        have hv1 := hv ((g / 10 % 100 : Nat) : Int) ((g / 1000 % 10 : Nat) : Int)
                        by_cases d2 : vw S (g / 10 % 100 : Nat) (g / 1000 % 10 : Nat) = 0
                        · rw [if_neg (show ¬ (vw S (g / 10 % 100 : Nat) (g / 1000 % 10 : Nat) ≠ 0) by omega)]
                          refine wt ((zI_inj (by omega)).mpr d2) ?_
                          exact no
                        · rw [if_pos d2]
                          refine wf (fun b => d2 ((zI_inj (by omega)).mp b)) ?_
                          exact yes
                      · rw [if_neg d1, tB_0 (by omega)]
                        refine wt rfl ?_
                        exact no
                    · rw [if_neg d]
                      refine wf (fun b => d ((zIn (by omega) (by omega)).mp b)) ?_
                      exact no
                  · rw [if_neg c9]
                    refine wf (fun b => c9 ((zIn (by omega) (by omega)).mp b)) ?_
                    exact no
