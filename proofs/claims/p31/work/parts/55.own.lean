/-! what the law keeps from turn to turn -/
def LOK (A : AB) (M : Int) : Prop := AOK A M ∧ QOK A.1 ∧ eOf A.1 (-1) - sOf A.1 (-1) ≤ 7
theorem LOK_up {A : AB} {M M' : Int} (H : LOK A M) (h : M ≤ M' ∧ M' < 1000000) : LOK A M' := ⟨AOK_up H.1 h, H.2.1, H.2.2⟩
theorem LOK_G {A : AB} {M : Int} (H : LOK A M) : GOK A.1 M := H.1.1
theorem LOK_to {A : AB} {M : Int} (H : LOK A M) {T : SG} (hM : M + 1 < 1000000) (hT : GOK T (M + 1)) (hQ : QOK T) (h7 : eOf T (-1) - sOf T (-1) ≤ 7) : LOK (T, push A.2.1 A.1, A.2.2) (M + 1) := ⟨AOK_push H.1 hT (by omega), hQ, h7⟩
theorem L_wadd {A : AB} {M : Int} (H : LOK A M) (hM : M + 1 < 1000000) {p q v : Int} (hp : 0 ≤ p ∧ p ≤ q ∧ q ≤ 99) (hv : 0 ≤ v ∧ v ≤ 999) (he : 0 < v → p = q) (hl : A.1.1.length < 48) (h7 : eOf A.1 (-1) - sOf A.1 (-1) < 7) : LOK (wadd A.1 p q v, push A.2.1 A.1, A.2.2) (M + 1) := by
  refine LOK_to H hM (wadd_ok H.1.1 hp hv he hl hM) (QOK_wadd H.1.1.1 H.2.1 p q v) ?_
  have h1 := eOf_m1 A.1
  have h2 := eOf_m1 (wadd A.1 p q v)
  have h3 : sOf (wadd A.1 p q v) (-1) = sOf A.1 (-1) := rfl
  have h4 : (wadd A.1 p q v).1.length = A.1.1.length + 1 := List.length_append
  omega
theorem L_open {A : AB} {M : Int} (H : LOK A M) (hM : M + 1 < 1000000) (hl : A.1.2.2.1.length < 2) : LOK ((A.1.1, A.1.2.1, A.1.2.2.1 ++ [A.1.2.2.2.1], A.1.2.2.2.1, A.1.2.2.2.2), push A.2.1 A.1, A.2.2) (M + 1) :=
  LOK_to H hM (cmd_ok H.1.1 hM (c := 111) (one := 0) (two := 0) (if_pos hl)) (QOK_same H.2.1 ⟨rfl, rfl⟩) H.2.2
theorem L_close {A : AB} {M : Int} (H : LOK A M) (hM : M + 1 < 1000000) {i : Int} (hi : 0 ≤ i ∧ i < A.1.2.2.1.length) : LOK ((A.1.1, A.1.2.1, A.1.2.2.1.eraseIdx i.toNat, A.1.2.2.2.1, A.1.2.2.2.2), push A.2.1 A.1, A.2.2) (M + 1) :=
  LOK_to H hM (cmd_ok H.1.1 hM (c := 99) (one := i) (two := 0) (if_pos hi)) (QOK_same H.2.1 ⟨rfl, rfl⟩) H.2.2
theorem L_flush {A : AB} {M : Int} (H : LOK A M) (hM : M + 1 < 1000000) (hF : flF A.1 = 0) : LOK (flS A.1, push A.2.1 A.1, A.2.2) (M + 1) := by
  refine LOK_to H hM (cmd_ok H.1.1 hM (c := 102) (one := 0) (two := 0) (if_pos hF)) (QOK_flS H.1.1.1 H.2.1) ?_
  have hS := H.1.1.1
  have hE := hS.2.2.2.2.2.2
  have hp := plc hE (i := -1) (by omega)
  have hr := rep_len (S := A.1) (nw := -1) (ol := -1) (by omega)
  have hp2 := plc (flS_ok hS).2.2.2.2.2.2 (i := -1) (by omega)
  have h1 := eOf_m1 A.1
  have h2 := eOf_m1 (flS A.1)
  have hR : (flS A.1).1.length = (rep A.1 (-1) (-1)).length := rfl
  have hK : (flK A.1).length = (clP A.1 (-1) (-1)).length := rfl
  have hend : (flS A.1).2.1 = if 0 < (flK A.1).length then A.1.2.1 ++ [sOf A.1 (-1) + (flK A.1).length] else A.1.2.1 := rfl
  by_cases c : 0 < (flK A.1).length
  · rw [if_pos c] at hend
    have hlen : (flS A.1).2.1.length = A.1.2.1.length + 1 := by rw [hend, List.length_append]; rfl
    have : sOf (flS A.1) (-1) = sOf A.1 (-1) + (flK A.1).length := by
      show iat (flS A.1).2.1 ((flS A.1).2.1.length - 2 - -1) = _
      rw [hlen, hend, show ((A.1.2.1.length + 1 : Nat) : Int) - 2 - -1 = (A.1.2.1.length : Nat) by omega, iat_last rfl]
    omega
  · rw [if_neg c] at hend
    have : sOf (flS A.1) (-1) = sOf A.1 (-1) := by
      unfold sOf
      rw [hend]
    omega
theorem sOf_mgS {S : SG} {M : Int} (H : SOK S M) {i : Int} (hi : 0 ≤ i ∧ i + 1 < S.2.1.length) : sOf (mgS S i) (-1) = sOf S (-1) - mgV S i ∧ ((mgS S i).1.length : Int) = S.1.length - mgV S i := by
  have hE := H.2.2.2.2.2.2
  obtain ⟨p1, p2, p3, p4, p5, p6, p7⟩ := mg_pre hE hi
  have hr := rep_len (S := S) (nw := i) (ol := i + 1) (by omega)
  have hR : (mgS S i).1.length = (rep S i (i + 1)).length := rfl
  have hK : (mgK S i).length = (clP S i (i + 1)).length := rfl
  obtain ⟨o, ho⟩ : ∃ o : Nat, (S.2.1.length : Int) - 2 - i = o := ⟨((S.2.1.length : Int) - 2 - i).toNat, by omega⟩
  have ho2 : ((S.2.1.length : Int) - 2 - i).toNat = o := by omega
  have hg : (mgG S i = 1 ∧ 0 < (mgK S i).length) ∨ (mgG S i = 2 ∧ (mgK S i).length = 0) := by
    unfold mgG
    split <;> omega
  have hog : o + mgG S i ≤ S.2.1.length := by omega
  have hv : mgV S i = eOf S i - sOf S (i + 1) - (mgK S i).length := rfl
  rw [show (S.2.1.length : Int) - 1 - i = o + 1 by omega] at p6
  rw [show (S.2.1.length : Int) - 2 - i = o by omega] at p5
  rw [show (S.2.1.length : Int) - 3 - i = o - 1 by omega] at p7
  have hend : (mgS S i).2.1 = mgE S.2.1 o (mgG S i) (mgV S i) := by
    show mgE S.2.1 ((S.2.1.length : Int) - 2 - i).toNat (mgG S i) (mgV S i) = _
    rw [ho2]
  have hlen : (mgS S i).2.1.length = S.2.1.length - mgG S i := by rw [hend, mgE_len hog]
  have hs : sOf S (-1) = iat S.2.1 (S.2.1.length - 1) := by
    unfold sOf
    congr 1
    omega
  refine ⟨?_, by omega⟩
  show iat (mgS S i).2.1 ((mgS S i).2.1.length - 2 - -1) = _
  rw [hlen, hend]
  by_cases c0 : S.2.1.length - mgG S i = 0
  · rw [iat_out (by omega)]
    have e1 : iat S.2.1 ((o : Int) - 1) = 0 := iat_out (by omega)
    have e2 : iat S.2.1 ((o : Int) + 1) = iat S.2.1 (S.2.1.length - 1) := congrArg _ (by omega)
    omega
  · rw [mgE_at hog (by omega)]
    by_cases c1 : ((S.2.1.length - mgG S i : Nat) : Int) - 2 - -1 < o
    · rw [if_pos c1]
      have e1 : iat S.2.1 (((S.2.1.length - mgG S i : Nat) : Int) - 2 - -1) = iat S.2.1 ((o : Int) - 1) := congrArg _ (by omega)
      have e2 : iat S.2.1 ((o : Int) + 1) = iat S.2.1 (S.2.1.length - 1) := congrArg _ (by omega)
      omega
    · rw [if_neg c1]
      have e1 : iat S.2.1 (((S.2.1.length - mgG S i : Nat) : Int) - 2 - -1 + mgG S i) = iat S.2.1 (S.2.1.length - 1) := congrArg _ (by omega)
      omega
theorem cmdS_merge {S : SG} {i : Int} (hF : mgF S i = 0) : cmdS 109 i 0 S = some (mgS S i) := if_pos hF
theorem L_merge {A : AB} {M : Int} (H : LOK A M) (hM : M + 1 < 1000000) {i : Int} (hF : mgF A.1 i = 0) : LOK (mgS A.1 i, push A.2.1 A.1, A.2.2) (M + 1) := by
  have hi := (mgF_0 hF).1
  refine LOK_to H hM (cmd_ok H.1.1 hM (cmdS_merge hF)) (QOK_mgS H.1.1.1 H.2.1 hi) ?_
  have h0 := sOf_mgS H.1.1.1 hi
  have h1 := eOf_m1 A.1
  have h2 := eOf_m1 (mgS A.1 i)
  have h7 := H.2.2
  omega
theorem push_last (l : List SG) (S : SG) : 0 < (push l S).length ∧ ∀ h : (push l S).length - 1 < (push l S).length, (push l S)[(push l S).length - 1] = S := by
  unfold push
  have hl : ∀ a : List SG, (a ++ [S]).length = a.length + 1 := fun a => List.length_append
  refine ⟨by rw [hl]; omega, fun h => ?_⟩
  rw [List.getElem_append_right (by rw [hl]; omega)]
  exact List.getElem_singleton _
theorem L_undo {A : AB} {M : Int} {T : SG} {l : List SG} {r : (Option SG × Option SG) × List Int} (H : LOK A M) (h : A.1 = T ∧ (∀ U ∈ l, GOK U M) ∧ r = A.2.2) : LOK (T, l, r) M := by
  obtain ⟨h1, h2, h3⟩ := h
  subst h1
  subst h3
  exact ⟨⟨H.1.1, h2, H.1.2.2⟩, H.2.1, H.2.2⟩
