/-! flushing and merging, on states -/
def ENS (es : List Int) (n : Nat) : Prop := (∀ i : Nat, i < es.length → 0 < iat es i ∧ iat es i ≤ n) ∧ ∀ i : Nat, i + 1 < es.length → iat es i < iat es ((i + 1 : Nat) : Int)
theorem ENS_at {es : List Int} {n : Nat} (H : ENS es n) {i : Int} (h : 0 ≤ i ∧ i < es.length) : 0 < iat es i ∧ iat es i ≤ n := by
  have := H.1 i.toNat (by omega)
  rw [show ((i.toNat : Nat) : Int) = i by omega] at this
  exact this
theorem ENS_lt {es : List Int} {n : Nat} (H : ENS es n) {i j : Int} (h : 0 ≤ i ∧ j = i + 1 ∧ j < es.length) : iat es i < iat es j := by
  have := H.2 i.toNat (by omega)
  rw [show ((i.toNat : Nat) : Int) = i by omega, show ((i.toNat + 1 : Nat) : Int) = j by omega] at this
  exact this
theorem plc {S : SG} (H : ENS S.2.1 S.1.length) {i : Int} (hi : -1 ≤ i ∧ i < S.2.1.length) : 0 ≤ sOf S i ∧ sOf S i ≤ eOf S i ∧ eOf S i ≤ S.1.length ∧ (0 ≤ i → sOf S i < eOf S i) := by
  unfold sOf eOf
  by_cases c1 : i = -1
  · subst c1
    rw [if_neg (by omega)]
    by_cases c2 : S.2.1.length = 0
    · rw [iat_out (by omega)]
      omega
    · have := ENS_at H (i := S.2.1.length - 2 - -1) (by omega)
      omega
  · have h1 := ENS_at H (i := S.2.1.length - 1 - i) (by omega)
    rw [if_pos (by omega)]
    by_cases c2 : i = S.2.1.length - 1
    · rw [iat_out (j := S.2.1.length - 2 - i) (by omega)]
      omega
    · have h2 := ENS_at H (i := S.2.1.length - 2 - i) (by omega)
      have h3 := ENS_lt H (i := S.2.1.length - 2 - i) (j := S.2.1.length - 1 - i) (by omega)
      omega
theorem plc2 (S : SG) {i : Int} (hi : -1 ≤ i ∧ i + 1 < S.2.1.length) : eOf S (i + 1) = sOf S i := by
  unfold sOf eOf
  rw [if_pos (by omega)]
  congr 1
  omega
/-- what cleaning makes of the writes of some places, from a newer to an older one -/
def clP (S : SG) (nw ol : Int) : List WR := clL S.1 S.2.2.1 (sOf S ol).toNat (eOf S nw).toNat (decide (ol = S.2.1.length - 1))
def rep (S : SG) (nw ol : Int) : List WR := S.1.take (sOf S ol).toNat ++ clP S nw ol ++ S.1.drop (eOf S nw).toNat
def flK (S : SG) : List WR := clP S (-1) (-1)
def flF (S : SG) : Int := if eOf S (-1) - sOf S (-1) = 0 ∨ S.2.1.length = 5 then 1 else if sOf S (-1) + (flK S).length ≤ 48 then 0 else 1
def flS (S : SG) : SG := (rep S (-1) (-1), if 0 < (flK S).length then S.2.1 ++ [sOf S (-1) + (flK S).length] else S.2.1, S.2.2.1, S.2.2.2.1, S.2.2.2.2 + (eOf S (-1) - sOf S (-1) - (flK S).length))
def mgK (S : SG) (i : Int) : List WR := clP S i (i + 1)
def mgF (S : SG) (i : Int) : Int := if ¬ (0 ≤ i ∧ i < S.2.1.length) then 1 else if i = S.2.1.length - 1 then 2 else if S.1.length + (mgK S i).length - (eOf S i - sOf S (i + 1)) ≤ 48 then 0 else 2
def mgE (es : List Int) (o g : Nat) (sv : Int) : List Int := es.take o ++ (es.drop (o + g)).map (fun e => e - sv)
def mgG (S : SG) (i : Int) : Nat := if 0 < (mgK S i).length then 1 else 2
def mgV (S : SG) (i : Int) : Int := eOf S i - sOf S (i + 1) - (mgK S i).length
def mgS (S : SG) (i : Int) : SG := (rep S i (i + 1), mgE S.2.1 (S.2.1.length - 2 - i).toNat (mgG S i) (mgV S i), S.2.2.1, S.2.2.2.1, S.2.2.2.2 + mgV S i)
theorem mgE_len {es : List Int} {o g : Nat} {sv : Int} (h : o + g ≤ es.length) : (mgE es o g sv).length = es.length - g := by
  unfold mgE
  rw [List.length_append, List.length_take, List.length_map, List.length_drop]
  omega
theorem mgE_at {es : List Int} {o g : Nat} {sv : Int} (h : o + g ≤ es.length) {x : Int} (hx : 0 ≤ x ∧ x < es.length - g) : iat (mgE es o g sv) x = if x < o then iat es x else iat es (x + g) - sv := by
  obtain ⟨y, rfl⟩ : ∃ y : Nat, x = y := ⟨x.toNat, by omega⟩
  rw [iat_get (by rw [mgE_len h]; omega)]
  unfold mgE
  by_cases c : (y : Int) < o
  · rw [if_pos c, iat_get (by omega), List.getElem_append_left (by rw [List.length_take]; omega), List.getElem_take]
  · rw [if_neg c, show (y : Int) + g = ((y + g : Nat) : Int) by omega, iat_get (by omega), List.getElem_append_right (by rw [List.length_take]; omega), List.getElem_map, List.getElem_drop]
    congr 2
    rw [List.length_take]
    omega
/-- a state as it should be -/
def SOK (S : SG) (M : Int) : Prop := WSOK S.1 ∧ ORD S.1 ∧ ENT S.1 ∧ NUM S.1 S.2.2.2.1 ∧ YOK S.2.2.1 S.2.2.2.1 ∧ (0 ≤ S.2.2.2.1 ∧ S.2.2.2.1 ≤ M ∧ M < 1000000) ∧ ENS S.2.1 S.1.length
theorem SOK_Y {S : SG} {M : Int} (H : SOK S M) : YOK S.2.2.1 M := fun e he => by
  have := H.2.2.2.2.1 e he
  have := H.2.2.2.2.2.1
  omega
theorem SOK_up {S : SG} {M M' : Int} (H : SOK S M) (h : M ≤ M' ∧ M' < 1000000) : SOK S M' := by
  obtain ⟨h1, h2, h3, h4, h5, h6, h7⟩ := H
  exact ⟨h1, h2, h3, h4, h5, by omega, h7⟩
theorem rep_len {S : SG} {nw ol : Int} (h : 0 ≤ sOf S ol ∧ sOf S ol ≤ eOf S nw ∧ eOf S nw ≤ S.1.length) : ((rep S nw ol).length : Int) = sOf S ol + (clP S nw ol).length + (S.1.length - eOf S nw) := by
  unfold rep
  rw [len_rep (by omega) (by omega)]
  omega
theorem rep_ok {S : SG} {M : Int} (H : SOK S M) {nw ol : Int} (h : 0 ≤ sOf S ol ∧ sOf S ol ≤ eOf S nw ∧ eOf S nw ≤ S.1.length) : WSOK (rep S nw ol) ∧ ORD (rep S nw ol) ∧ ENT (rep S nw ol) ∧ NUM (rep S nw ol) S.2.2.2.1 := by
  obtain ⟨h1, h2, h3, h4, h5, h6, h7⟩ := H
  exact ⟨wcl_WSOK h1 (by omega), wcl_ORD h1 h2 (by omega) (by omega), wcl_ENT h1 h3 (by omega), wcl_NUM h1 h4 (by omega)⟩
theorem flS_ok {S : SG} {M : Int} (H : SOK S M) : SOK (flS S) M := by
  have hE := H.2.2.2.2.2.2
  have hp := plc hE (i := -1) (by omega)
  obtain ⟨r1, r2, r3, r4⟩ := rep_ok H (nw := -1) (ol := -1) (by omega)
  have hl := rep_len (S := S) (nw := -1) (ol := -1) (by omega)
  have hm := eOf_m1 S
  refine ⟨r1, r2, r3, r4, H.2.2.2.2.1, H.2.2.2.2.2.1, ?_⟩
  unfold flS
  dsimp only
  have hs : ∀ i : Nat, i < S.2.1.length → 0 < iat S.2.1 i ∧ iat S.2.1 i ≤ sOf S (-1) := by
    intro i hi
    have h0 := ENS_at hE (i := i) (by omega)
    have : ∀ d : Nat, ∀ i : Nat, i + d + 1 = S.2.1.length → iat S.2.1 i ≤ sOf S (-1) := by
      intro d
      induction d with
      | zero =>
        intro i hi
        unfold sOf
        rw [show (S.2.1.length : Int) - 2 - -1 = i by omega]
        exact Int.le_refl _
      | succ d ih =>
        intro i hi
        have h1 := ih (i + 1) (by omega)
        have h2 := hE.2 i (by omega)
        omega
    have := this (S.2.1.length - 1 - i) i (by omega)
    omega
  by_cases c : 0 < (flK S).length
  · rw [if_pos c]
    have hk : (flK S).length = (clP S (-1) (-1)).length := rfl
    constructor
    · intro i hi
      rw [List.length_append, List.length_singleton] at hi
      by_cases c2 : i = S.2.1.length
      · rw [iat_last c2]
        omega
      · rw [iat_app (by omega)]
        have := hs i (by omega)
        omega
    · intro i hi
      rw [List.length_append, List.length_singleton] at hi
      rw [iat_app (by omega)]
      by_cases c2 : i + 1 = S.2.1.length
      · rw [iat_last c2]
        have := hs i (by omega)
        omega
      · rw [iat_app (by omega)]
        exact hE.2 i (by omega)
  · rw [if_neg c]
    refine ⟨fun i hi => ?_, hE.2⟩
    have := hs i hi
    omega
theorem ENS_mono {es : List Int} {n : Nat} (H : ENS es n) {i j : Int} (h : 0 ≤ i ∧ i ≤ j ∧ j < es.length) : iat es i ≤ iat es j := by
  obtain ⟨d, hd⟩ : ∃ d : Nat, j = i + d := ⟨(j - i).toNat, by omega⟩
  subst hd
  induction d with
  | zero =>
    rw [show i + ((0 : Nat) : Int) = i by omega]
    exact Int.le_refl _
  | succ d ih =>
    have h1 := ih (by omega)
    have h2 := ENS_lt H (i := i + d) (j := i + ((d + 1 : Nat) : Int)) (by omega)
    omega
theorem mg_pre {S : SG} (hE : ENS S.2.1 S.1.length) {i : Int} (hi : 0 ≤ i ∧ i + 1 < S.2.1.length) : 0 ≤ sOf S (i + 1) ∧ sOf S (i + 1) < sOf S i ∧ sOf S i < eOf S i ∧ eOf S i ≤ S.1.length ∧ sOf S i = iat S.2.1 (S.2.1.length - 2 - i) ∧ eOf S i = iat S.2.1 (S.2.1.length - 1 - i) ∧ sOf S (i + 1) = iat S.2.1 (S.2.1.length - 3 - i) := by
  have h1 := plc hE (i := i) (by omega)
  have h2 := plc hE (i := i + 1) (by omega)
  have h3 := plc2 S (i := i) (by omega)
  have h4 : eOf S i = iat S.2.1 (S.2.1.length - 1 - i) := by
    unfold eOf
    rw [if_pos (by omega)]
  have h5 : sOf S (i + 1) = iat S.2.1 (S.2.1.length - 3 - i) := by
    unfold sOf
    congr 1
    omega
  exact ⟨by omega, by omega, by omega, by omega, rfl, h4, h5⟩
theorem mgS_ok {S : SG} {M : Int} (H : SOK S M) {i : Int} (hi : 0 ≤ i ∧ i + 1 < S.2.1.length) : SOK (mgS S i) M := by
  have hE := H.2.2.2.2.2.2
  obtain ⟨p1, p2, p3, p4, p5, p6, p7⟩ := mg_pre hE hi
  obtain ⟨r1, r2, r3, r4⟩ := rep_ok H (nw := i) (ol := i + 1) (by omega)
  have hl := rep_len (S := S) (nw := i) (ol := i + 1) (by omega)
  have hk : (mgK S i).length = (clP S i (i + 1)).length := rfl
  refine ⟨r1, r2, r3, r4, H.2.2.2.2.1, H.2.2.2.2.2.1, ?_⟩
  unfold mgS
  dsimp only
  obtain ⟨o, ho⟩ : ∃ o : Nat, (S.2.1.length : Int) - 2 - i = o := ⟨((S.2.1.length : Int) - 2 - i).toNat, by omega⟩
  have ho2 : ((S.2.1.length : Int) - 2 - i).toNat = o := by omega
  rw [ho2]
  have hg : (mgG S i = 1 ∧ 0 < (mgK S i).length) ∨ (mgG S i = 2 ∧ (mgK S i).length = 0) := by
    unfold mgG
    split <;> omega
  have hog : o + mgG S i ≤ S.2.1.length := by omega
  have hv : mgV S i = eOf S i - sOf S (i + 1) - (mgK S i).length := rfl
  rw [show (S.2.1.length : Int) - 1 - i = o + 1 by omega] at p6
  rw [show (S.2.1.length : Int) - 2 - i = o by omega] at p5
  rw [show (S.2.1.length : Int) - 3 - i = o - 1 by omega] at p7
  constructor
  · intro x hx
    rw [mgE_len hog] at hx
    rw [mgE_at hog (by omega)]
    by_cases c : (x : Int) < o
    · rw [if_pos c]
      have h1 := ENS_at hE (i := x) (by omega)
      have h2 := ENS_mono hE (i := x) (j := o - 1) (by omega)
      omega
    · rw [if_neg c]
      have h1 := ENS_at hE (i := x + mgG S i) (by omega)
      have h2 := ENS_mono hE (i := o + 1) (j := x + mgG S i) (by omega)
      have h3 : mgG S i = 2 → eOf S i < iat S.2.1 (x + mgG S i) := fun h4 => by
        have h5 := ENS_lt hE (i := o + 1) (j := o + 2) (by omega)
        have h6 := ENS_mono hE (i := o + 2) (j := x + mgG S i) (by omega)
        omega
      omega
  · intro x hx
    rw [mgE_len hog] at hx
    rw [mgE_at hog (by omega), mgE_at hog (by omega)]
    by_cases c : ((x + 1 : Nat) : Int) < o
    · rw [if_pos c, if_pos (by omega)]
      exact ENS_lt hE (by omega)
    · rw [if_neg c]
      by_cases c2 : (x : Int) < o
      · rw [if_pos c2]
        have h1 : iat S.2.1 x = sOf S (i + 1) := by
          rw [p7]
          congr 1
          omega
        have h2 := ENS_mono hE (i := o + 1) (j := ((x + 1 : Nat) : Int) + mgG S i) (by omega)
        have h3 : mgG S i = 2 → eOf S i < iat S.2.1 (((x + 1 : Nat) : Int) + mgG S i) := fun h4 => by
          have h5 := ENS_lt hE (i := o + 1) (j := o + 2) (by omega)
          have h6 := ENS_mono hE (i := o + 2) (j := ((x + 1 : Nat) : Int) + mgG S i) (by omega)
          omega
        omega
      · rw [if_neg c2]
        have := ENS_lt hE (i := x + mgG S i) (j := ((x + 1 : Nat) : Int) + mgG S i) (by omega)
        omega
