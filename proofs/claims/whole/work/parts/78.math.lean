/-! run: the keys of a place -/
def kyB (ws : List WR) (p r : Nat) (k : Nat) : Bool := exB (fun i => wcB (wat ws i) k) p r
theorem kyIn_loop {h : HP} {cl a cap : Nat} {S : SG} (e : STO h cl a cap S) (hw : WSOK S.1) {i : Int} (hi : -1000000 < i ∧ i < 1000000) {p q : Nat} (he : eOf S i = q) (hq : q ≤ S.1.length) : ∀ (r n : Nat) (lo hi' : Int64) (j : Nat), r < n → j + r = q → p ≤ j → (∀ k : Nat, k < 128 → kbit lo hi' k = kyB S.1 p (j - p) k) → k_keysIn h a (zI i) n lo hi' (zI j) = some (zI (cnt (fun k => kyB S.1 p (q - p) k = true) 0 100)) := by
  have hL := WRS_len (STO_w e).2.1
  intro r
  induction r with
  | zero =>
    intro n lo hi' j hn hj hp hK
    obtain ⟨n, rfl⟩ : ∃ k, n = k + 1 := ⟨n - 1, by omega⟩
    have h1 : KEYS (fun _ => some (kCell lo hi')) 0 (kyB S.1 p (q - p)) := ⟨lo, hi', rfl, fun k hk => by rw [hK k hk, show j = q by omega]⟩
    show ((f_X3_endOf h a (zI i)).bind fun y1 => if y1 ≤ zI (j : Int) then f_X2_size (fun _ => some (kCell lo hi')) 0 else _) = _
    rw [X3_endOf_is e hi, Option.bind_some, he, if_pos ((zI_le (by omega)).mpr (by omega))]
    refine X2_size_is h1 (fun k h5 h6 => ?_)
    refine exB_0 fun x h7 h8 => decide_eq_false ?_
    have := WOK_at hw (j := (x : Int)) (by omega)
    unfold WOK at this
    omega
  | succ r ih =>
    intro n lo hi' j hn hj hp hK
    obtain ⟨n, rfl⟩ : ∃ k, n = k + 1 := ⟨n - 1, by omega⟩
    have hwj := WOK_at hw (j := (j : Int)) (by omega)
    unfold WOK at hwj
    show ((f_X3_endOf h a (zI i)).bind fun y1 => if y1 ≤ zI (j : Int) then f_X2_size (fun _ => some (kCell lo hi')) 0 else (gR 3 1 h a).bind fun x4 => (f_X6_firstAt h x4 (zI j)).bind fun y5 => (f_X6_lastAt h x4 (zI j)).bind fun y7 => k_keysIn h a (zI i) n (kLo lo y5 y7) (kHi hi' y5 y7) (zI j + 1)) = _
    rw [X3_endOf_is e hi, Option.bind_some, he, if_neg (fun d => absurd ((zI_le (by omega)).mp d) (by omega)), (STO_w e).1, Option.bind_some, X6_firstAt_is (STO_w e).2.1 (by omega), Option.bind_some, X6_lastAt_is (STO_w e).2.1 (by omega), Option.bind_some, zl1, zI_add, ← cast1]
    refine ih n _ _ (j + 1) (by omega) (by omega) (by omega) (fun k hk => ?_)
    have h1 := kbit_row lo hi' (f := (wat S.1 j).2.1.toNat) (l := (wat S.1 j).2.2.1.toNat) (k := k) (by omega) (by omega) hk
    rw [show (((wat S.1 j).2.1.toNat : Nat) : Int) = (wat S.1 j).2.1 by omega, show (((wat S.1 j).2.2.1.toNat : Nat) : Int) = (wat S.1 j).2.2.1 by omega] at h1
    rw [h1, hK k hk]
    unfold kyB
    rw [show j + 1 - p = (j - p) + 1 by omega, exB_last, show p + (j - p) = j by omega]
    congr 1
    exact decide_eq_decide.mpr (by omega)
theorem X3_keysIn_is {h : HP} {cl a cap : Nat} {S : SG} (e : STO h cl a cap S) (hw : WSOK S.1) {i : Int} (hi : -1000000 < i ∧ i < 1000000) {p q : Nat} (hs : sOf S i = p) (he : eOf S i = q) (hp : p ≤ q) (hq : q ≤ S.1.length) : f_X3_keysIn h a (zI i) = some (zI (cnt (fun k => kyB S.1 p (q - p) k = true) 0 100)) := by
  have hL := WRS_len (STO_w e).2.1
  unfold f_X3_keysIn
  rw [(STO_w e).2.2.1, Option.bind_some, X3_startOf_is e hi, Option.bind_some, hs]
  refine kyIn_loop e hw hi he hq (q - p) FU 0 0 p (by unfold FU; omega) (by omega) (Nat.le_refl _) (fun k hk => ?_)
  rw [Nat.sub_self]
  unfold kbit kyB
  show _ = false
  split <;> simp
theorem keysOf_18 {h : HP} {m : Nat} {S : SG} (e : REF h m S) (hw : WSOK S.1) {p q : Nat} (hq : q ≤ S.1.length) {k : Nat} (hk : k < 100) {k5 : Int32 → Int32 → Option Int32} {acc : Int} : ∀ (r n : Nat) (t : Bool) (j : Nat), r < n → j + r = q → b_X8_keysOf_18 h m (zI p) (zI q) k5 n (zI acc) (zI k) (tB (t = true)) (zI j) = k5 (zI (acc + if (t || exB (fun i => wcB (wat S.1 i) k) j r) = true then 1 else 0)) (zI ((k : Int) + 1)) := by
  have hb := (REF_b e).1
  intro r
  induction r with
  | zero =>
    intro n t j hn hj
    obtain ⟨n, rfl⟩ : ∃ k, n = k + 1 := ⟨n - 1, by omega⟩
    unfold b_X8_keysOf_18 c_X8_keysOf_18
    rw [if_pos ((zI_le (by omega)).mpr (by omega)), show exB (fun i => wcB (wat S.1 i) k) j 0 = false from rfl, Bool.or_false]
    simp only [zl0, zl1, zI_add]
    cases t with
    | true => rw [tB_1 (p := true = true) rfl, if_neg (by decide), if_pos rfl]
    | false => rw [tB_0 (p := false = true) (by decide), if_pos (by rfl), if_neg (by decide)]
  | succ r ih =>
    intro n t j hn hj
    obtain ⟨n, rfl⟩ : ∃ k, n = k + 1 := ⟨n - 1, by omega⟩
    have h1 := ih n true (j + 1) (by omega) (by omega)
    have h2 := ih n false (j + 1) (by omega) (by omega)
    rw [cast1, tB_1 (p := true = true) rfl] at h1
    rw [cast1, tB_0 (p := false = true) (by decide)] at h2
    unfold b_X8_keysOf_18 c_X8_keysOf_18
    rw [if_neg (fun d => absurd ((zI_le (by omega)).mp d) (by omega)), show zI (j : Int) + 1 = zI ((j : Int) + 1) by rw [zl1, zI_add], h1, h2, exB_succ]
    cases t with
    | true => rw [tB_1 (p := true = true) rfl, if_neg (by decide), Bool.true_or, Bool.true_or]
    | false =>
      rw [tB_0 (p := false = true) (by decide), if_pos rfl, X8_concerns_is e hw (by omega) (by omega), Option.bind_some, Bool.false_or, Bool.false_or]
      by_cases c : (wat S.1 j).2.1 ≤ k ∧ (k : Int) ≤ (wat S.1 j).2.2.1
      · rw [tB_1 c, if_neg (by decide), wcB_iff.mpr c, Bool.true_or]
        try rfl
      · rw [tB_0 c, if_pos rfl, show wcB (wat S.1 j) k = false from decide_eq_false c, Bool.false_or]
theorem keysOf_5 {h : HP} {m : Nat} {S : SG} (e : REF h m S) (hw : WSOK S.1) {p q : Nat} (hp : p ≤ q) (hq : q ≤ S.1.length) : ∀ (r n : Nat) (acc : Int) (k : Nat), r < n → k + r = 100 → b_X8_keysOf_5 h m (zI p) (zI q) n (zI acc) (zI k) = some (zI (acc + cnt (fun k => kyB S.1 p (q - p) k = true) k r)) := by
  have hb := (REF_b e).1
  intro r
  induction r with
  | zero =>
    intro n acc k hn hk
    obtain ⟨n, rfl⟩ : ∃ k, n = k + 1 := ⟨n - 1, by omega⟩
    unfold b_X8_keysOf_5 c_X8_keysOf_5
    rw [show (100 : Int32) = zI 100 by decide, if_pos ((zI_le (by omega)).mpr (by omega))]
    unfold cnt
    rw [Int.add_zero]
  | succ r ih =>
    intro n acc k hn hk
    obtain ⟨n, rfl⟩ : ∃ k, n = k + 1 := ⟨n - 1, by omega⟩
    have h1 := keysOf_18 e hw (p := p) hq (k := k) (by omega) (k5 := b_X8_keysOf_5 h m (zI p) (zI q) n) (acc := acc) (q - p) FU false p (by unfold FU; omega) (by omega)
    unfold b_X8_keysOf_5 c_X8_keysOf_5
    rw [show (100 : Int32) = zI 100 by decide, if_neg (fun d => absurd ((zI_le (by omega)).mp d) (by omega))]
    rw [tB_0 (p := false = true) (by decide), Bool.false_or] at h1
    rw [h1, ← cast1, ih n _ (k + 1) (by omega) (by omega), cnt_succ, Int.add_assoc]
    rfl
theorem X8_keysOf_is {h : HP} {m : Nat} {S : SG} (e : REF h m S) (hw : WSOK S.1) {p q : Nat} (hp : p ≤ q) (hq : q ≤ S.1.length) : f_X8_keysOf h m (zI p) (zI q) = some (zI (cnt (fun k => kyB S.1 p (q - p) k = true) 0 100)) := by
  have h1 := keysOf_5 e hw hp hq 100 FU 0 0 (by unfold FU; omega) (by omega)
  unfold f_X8_keysOf b_X8_keysOf_0
  rw [(REF_b e).2, Option.bind_some, zl0]
  rw [Int.zero_add] at h1
  exact h1
theorem cnt_not (P : Nat → Prop) [DecidablePred P] (p n : Nat) : cnt (fun i => P i ↔ false = true) p n = n - cnt P p n := by
  induction n generalizing p with
  | zero => rfl
  | succ n ih =>
    rw [cnt_succ, cnt_succ, ih]
    by_cases c : P p
    · rw [if_pos c, if_neg (fun d => absurd (d.mp c) (by decide))]
      omega
    · rw [if_neg c, if_pos ⟨fun d => absurd d c, fun d => absurd d (by decide)⟩]
      omega
def rnV (S : SG) (i w : Int) : Int := if w = 0 then cnt (fun j => 0 < (wat S.1 j).2.2.2) (sOf S i).toNat (eOf S i - sOf S i).toNat else if w = 1 then (eOf S i - sOf S i) - cnt (fun j => 0 < (wat S.1 j).2.2.2) (sOf S i).toNat (eOf S i - sOf S i).toNat else if w = 2 then (if eOf S i - sOf S i = 0 then -1 else (wat S.1 (sOf S i)).1) else if w = 3 then (if eOf S i - sOf S i = 0 then -1 else (wat S.1 (eOf S i - 1)).1) else cnt (fun k => kyB S.1 (sOf S i).toNat (eOf S i - sOf S i).toNat k = true) 0 100
def xRun (A : AB) (i w : Int) : Int × Int × AB := if ¬ (-1 ≤ i ∧ i < A.1.2.1.length) then (1, 0, A) else if ¬ (0 ≤ w ∧ w ≤ 4) then (2, 0, A) else (0, rnV A.1 i w, A)
theorem C_run {h : HP} {x : Nat} {A : AB} (e : CLS h x A) {M : Int} (H : GOK A.1 M) {i w : Int} (hi : -2147483648 ≤ i ∧ i < 2147483648) (hw : -2147483648 ≤ w ∧ w < 2147483648) : f_X7_run h x (zI i) (zI w) = some (EXC [IOB, IAE] (xRun A i w).1 (xRun A i w).2.1) := by
  have g := CLS_g e
  have s := CLS_S e
  have hS := H.2
  unfold SML at hS
  have hE := H.1.2.2.2.2.2.2
  unfold f_X7_run b_X7_run_0 xRun
  rw [g.1, Option.bind_some, g.2.2.1, Option.bind_some, X3_isPlace_is s hi, Option.bind_some]
  by_cases c1 : -1 ≤ i ∧ i < A.1.2.1.length
  · have hp := plc hE (i := i) c1
    have h1 := X3_startOf_is s (i := i) (by omega)
    have h2 := X3_endOf_is s (i := i) (by omega)
    have h3 := X3_sizeOf_is s (i := i) (by omega)
    have h4 := X3_entriesIn_is s H.1.1 (p := (sOf A.1 i).toNat) (m := (eOf A.1 i - sOf A.1 i).toNat) (by omega)
    rw [show (((sOf A.1 i).toNat : Nat) : Int) = sOf A.1 i by omega, show (((sOf A.1 i).toNat + (eOf A.1 i - sOf A.1 i).toNat : Nat) : Int) = eOf A.1 i by omega] at h4
    have h5 := X3_keysIn_is s H.1.1 (i := i) (by omega) (p := (sOf A.1 i).toNat) (q := (eOf A.1 i).toNat) (by omega) (by omega) (by omega) (by omega)
    rw [show (eOf A.1 i).toNat - (sOf A.1 i).toNat = (eOf A.1 i - sOf A.1 i).toNat by omega] at h5
    rw [tB_1 c1, if_neg (by decide), if_neg (show ¬ ¬ (-1 ≤ i ∧ i < A.1.2.1.length) by omega)]
    simp only [show (2 : Int32) = zI 2 by decide, show (3 : Int32) = zI 3 by decide, show (4 : Int32) = zI 4 by decide, zl0, zl1, zI_neg]
    unfold rnV
    by_cases w0 : w = 0
    · rw [if_pos ((zI_inj (by omega)).mpr w0), if_neg (show ¬ ¬ (0 ≤ w ∧ w ≤ 4) by omega), if_pos w0, Option.bind_some, Option.bind_some, h1, Option.bind_some, Option.bind_some, h2, Option.bind_some, h4]
      rfl
    · rw [if_neg (fun d => w0 ((zI_inj (by omega)).mp d)), if_neg w0]
      by_cases w1 : w = 1
      · rw [if_pos ((zI_inj (by omega)).mpr w1), if_neg (show ¬ ¬ (0 ≤ w ∧ w ≤ 4) by omega), if_pos w1, Option.bind_some, h3, Option.bind_some, Option.bind_some, Option.bind_some, h1, Option.bind_some, Option.bind_some, h2, Option.bind_some, h4, Option.bind_some, zI_sub]
        rfl
      · rw [if_neg (fun d => w1 ((zI_inj (by omega)).mp d)), if_neg w1]
        by_cases w2 : w = 2
        · rw [if_pos ((zI_inj (by omega)).mpr w2), if_neg (show ¬ ¬ (0 ≤ w ∧ w ≤ 4) by omega), if_pos w2, Option.bind_some, h3, Option.bind_some]
          by_cases c2 : eOf A.1 i - sOf A.1 i = 0
          · rw [if_pos ((zI_inj (by omega)).mpr c2), if_pos c2]
            rfl
          · rw [if_neg (fun d => c2 ((zI_inj (by omega)).mp d)), if_neg c2, Option.bind_some, (STO_w s).1, Option.bind_some, Option.bind_some, h1, Option.bind_some, X6_numberAt_is (STO_w s).2.1 (by omega)]
            rfl
        · rw [if_neg (fun d => w2 ((zI_inj (by omega)).mp d)), if_neg w2]
          by_cases w3 : w = 3
          · rw [if_pos ((zI_inj (by omega)).mpr w3), if_neg (show ¬ ¬ (0 ≤ w ∧ w ≤ 4) by omega), if_pos w3, Option.bind_some, h3, Option.bind_some]
            by_cases c2 : eOf A.1 i - sOf A.1 i = 0
            · rw [if_pos ((zI_inj (by omega)).mpr c2), if_pos c2]
              rfl
            · rw [if_neg (fun d => c2 ((zI_inj (by omega)).mp d)), if_neg c2, Option.bind_some, (STO_w s).1, Option.bind_some, Option.bind_some, h2, Option.bind_some, zI_sub, X6_numberAt_is (STO_w s).2.1 (by omega)]
              rfl
          · rw [if_neg (fun d => w3 ((zI_inj (by omega)).mp d)), if_neg w3]
            by_cases w4 : w = 4
            · rw [if_pos ((zI_inj (by omega)).mpr w4), if_neg (show ¬ ¬ (0 ≤ w ∧ w ≤ 4) by omega), Option.bind_some, h5]
              rfl
            · rw [if_neg (fun d => w4 ((zI_inj (by omega)).mp d)), if_pos (show ¬ (0 ≤ w ∧ w ≤ 4) by omega)]
              rfl
  · rw [tB_0 c1, if_pos rfl, if_pos c1]
    rfl
theorem X8_ofRun_is {h : HP} {m : Nat} {S : SG} (e : REF h m S) {M : Int} (H : GOK S M) {i w : Int} (hi : -1 ≤ i ∧ i < S.2.1.length) (hw : 0 ≤ w ∧ w ≤ 4) : f_X8_ofRun h m (zI i) (zI w) = some (zI (rnV S i w)) := by
  have hS := H.2
  unfold SML at hS
  have hE := H.1.2.2.2.2.2.2
  have hp := plc hE (i := i) hi
  have h1 := X8_begin_is e (r := i) (by omega)
  have h2 := X8_manyIn_is e hi
  have h4 := fun b => X8_kinds_is e H.1.1 (p := (sOf S i).toNat) (r := (eOf S i - sOf S i).toNat) (by omega) b
  rw [show (((sOf S i).toNat : Nat) : Int) = sOf S i by omega, show (((sOf S i).toNat + (eOf S i - sOf S i).toNat : Nat) : Int) = eOf S i by omega] at h4
  have h5 := X8_keysOf_is e H.1.1 (p := (sOf S i).toNat) (q := (eOf S i).toNat) (by omega) (by omega)
  rw [show (eOf S i).toNat - (sOf S i).toNat = (eOf S i - sOf S i).toNat by omega, show (((sOf S i).toNat : Nat) : Int) = sOf S i by omega, show (((eOf S i).toNat : Nat) : Int) = eOf S i by omega] at h5
  unfold f_X8_ofRun b_X8_ofRun_0 b_X8_ofRun_48 b_X8_ofRun_61
  rw [(REF_b e).2, Option.bind_some, h1, Option.bind_some, h2, Option.bind_some, zI_add, show sOf S i + (eOf S i - sOf S i) = eOf S i by omega]
  have k1 := h4 true
  have k0 := h4 false
  rw [tB_1 (p := true = true) rfl] at k1
  rw [tB_0 (p := false = true) (by decide), cnt_not] at k0
  have k1' : f_X8_kinds h m (zI (sOf S i)) (zI (eOf S i)) 1 = some (zI (cnt (fun j => 0 < (wat S.1 j).2.2.2) (sOf S i).toNat (eOf S i - sOf S i).toNat)) := by
    rw [k1]
    exact congrArg some (congrArg zI (cnt_c fun i _ _ => ⟨fun d => d.mpr rfl, fun d => ⟨fun _ => rfl, fun _ => d⟩⟩))
  rw [show (((eOf S i - sOf S i).toNat : Nat) : Int) = eOf S i - sOf S i by omega] at k0
  unfold rnV
  by_cases w0 : w = 0
  · subst w0
    rw [if_pos (by rfl), if_pos (by rfl), if_pos rfl, k1']
    rfl
  · have n0 : ¬ zI w = 0 := fun d => w0 ((zI_inj (by omega)).mp (d.trans zl0))
    rw [if_neg n0, if_neg w0]
    by_cases w1 : w = 1
    · subst w1
      rw [if_pos (by rfl), if_neg n0, if_pos rfl, k0]
      rfl
    · rw [if_neg (fun d => w1 ((zI_inj (by omega)).mp (d.trans zl1))), if_neg w1]
      by_cases w2 : w = 2
      · subst w2
        rw [if_pos (by rfl), if_pos rfl]
        by_cases c2 : eOf S i - sOf S i = 0
        · rw [if_pos ((zI_inj (by omega)).mpr (by omega)), if_pos c2]
          rfl
        · rw [if_neg (fun d => c2 (by have := (zI_inj (by omega)).mp d; omega)), if_neg c2, rq0 e (by omega)]
      · rw [if_neg (fun d => w2 ((zI_inj (by omega)).mp (d.trans (show (2 : Int32) = zI 2 by decide)))), if_neg w2]
        by_cases w3 : w = 3
        · subst w3
          rw [if_pos (by rfl), if_pos rfl]
          by_cases c2 : eOf S i - sOf S i = 0
          · rw [if_pos ((zI_inj (by omega)).mpr (by omega)), if_pos c2]
            rfl
          · rw [if_neg (fun d => c2 (by have := (zI_inj (by omega)).mp d; omega)), if_neg c2, show zI (eOf S i) - 1 = zI (eOf S i - 1) by rw [zl1, zI_sub], rq0 e (by omega)]
        · rw [if_neg (fun d => w3 ((zI_inj (by omega)).mp (d.trans (show (3 : Int32) = zI 3 by decide)))), if_neg w3, h5]
          rfl
theorem R_run {h : HP} {m : Nat} {v : Nat → Int32} {A : AB} (e : RFV h m v A) {M : Int} (H : GOK A.1 M) {i w : Int} (hi : -2147483648 ≤ i ∧ i < 2147483648) (hw : -2147483648 ≤ w ∧ w < 2147483648) : WP (f_X8_run h m (zI i) (zI w)) (RFR m (xRun A i w).2.2 (xRun A i w).1 (xRun A i w).2.1 h) := by
  have f18 : -1 ≤ i ∧ i < A.1.2.1.length → WP (b_X8_run_18 m (zI i) (zI w) h m) (RFR m (xRun A i w).2.2 (xRun A i w).1 (xRun A i w).2.1 h) := by
    intro hp
    unfold b_X8_run_18 b_X8_run_32 xRun
    rw [if_neg (show ¬ ¬ (-1 ≤ i ∧ i < A.1.2.1.length) by omega), show f_X8_in h (zI w) 0 4 = f_X8_in h (zI w) (zI 0) (zI 4) from rfl]
    refine wb (X8_in_is h hw (by omega) (by omega)) ?_
    by_cases c : 0 ≤ w ∧ w ≤ 4
    · rw [tB_1 c, if_neg (show ¬ ¬ (0 ≤ w ∧ w ≤ 4) by omega)]
      refine wf (by decide) ?_
      exact hold_read e (c := 0) (by omega) (fun _ h' w' e' => X8_ofRun_is e'.2.1 H hp c) rfl
    · rw [tB_0 c, if_pos c]
      refine wt rfl ?_
      exact hold_fail e (c := 2) (by omega) rfl
  unfold f_X8_run b_X8_run_0
  refine wb (kO_e e.1) ?_
  rw [zm1]
  by_cases c0 : i = -1
  · refine wt ((zI_inj (by omega)).mpr c0) ?_
    exact f18 (by omega)
  · refine wf (fun d => c0 ((zI_inj (by omega)).mp d)) ?_
    refine wb (X8_isRun_is e.2.1 hi) ?_
    by_cases c1 : 0 ≤ i ∧ i < A.1.2.1.length
    · rw [tB_1 c1]
      refine wf (by decide) ?_
      exact f18 (by omega)
    · rw [tB_0 c1]
      refine wt rfl ?_
      unfold b_X8_run_32 xRun
      rw [if_pos (show ¬ (-1 ≤ i ∧ i < A.1.2.1.length) by omega)]
      exact hold_fail e (c := 1) (by omega) rfl
