theorem X0_addRows_is {h : HP} {c wa cap : Nat} {ws rs : List WR} {L : Nat → Nat → Bool} (e : CLNX h c rs L) (s : WRS h wa cap ws) (hw : WSOK ws) (hd : wa + 5 ≤ c ∨ c + 158 ≤ wa) {j : Nat} (hj : j < ws.length) (hj2 : j < 148) {K : Int → Bool} (hK : ∀ k : Nat, L (3 + j) k = K k) (hb : rs.length + (rws (wat ws j) K).length ≤ 348) : WP (f_X0_addRows h c wa (zI j)) (fun h' => CLNX h' c (rs ++ rws (wat ws j) K) L ∧ OFF c 158 h h') := by
  have hwj := WOK_at hw (j := j) (by omega)
  unfold WOK at hwj
  have hlen := WRS_len s
  unfold f_X0_addRows b_X0_addRows_0
  refine wb (CLNX_kO e) ?_
  refine wb (CLNX_0 e).2.1 ?_
  refine wb (CLNX_a e hj2) ?_
  refine wb (X6_lastAt_is s (by omega)) ?_
  refine wb (X6_firstAt_is s (by omega)) ?_
  have hc : (wat ws j).2.1 = (((wat ws j).2.1.toNat : Nat) : Int) := by omega
  have h1 := aR_loop (v0 := zI (wat ws j).2.2.1) hw hd hj hj2 hK (h0 := h) rfl ((wat ws j).2.2.1 + 1 - (wat ws j).2.1).toNat FU h rs (wat ws j).2.1.toNat (wat ws j).2.1.toNat (by unfold FU; omega) (by omega) (Nat.le_refl _) e s (OFF_refl _ _ _) (-1) (by
    by_cases c4 : ((wat ws j).2.2.1 + 1 - (wat ws j).2.1).toNat = 0
    · rw [if_pos c4]
    · rw [if_neg c4, if_pos rfl]
      split <;> rfl) (by
    rw [← hc]
    exact hb)
  rw [← hc] at h1
  exact h1
theorem clean_loop {c a cap cl : Nat} {S : SG} {L : Nat → Nat → Bool} (hw : WSOK S.1) (hd : a + 8 ≤ c ∨ c + 158 ≤ a) {p q : Nat} {o : Bool} (hq : q ≤ S.1.length) (hq2 : q ≤ 148) (hL : ∀ i, p ≤ i → i < q → ∀ k : Nat, L (3 + i) k = kpB S.1 S.2.2.1 p q o i k) {h0 : HP} : ∀ (r n : Nat) (h : HP) (rs : List WR) (j : Nat), r < n → j + r = q → p ≤ j → CLNX h c rs L → STO h cl a cap S → OFF c 158 h0 h → rs.length + (clF S.1 S.2.2.1 p q o j r).length ≤ 348 → WP (b_X0_clean_73 c a n h (zI q) (zI j)) (fun r' => r'.1 = zI (rs ++ clF S.1 S.2.2.1 p q o j r).length ∧ CLNX r'.2 c (rs ++ clF S.1 S.2.2.1 p q o j r) L ∧ OFF c 158 h0 r'.2) := by
  intro r
  induction r with
  | zero =>
    intro n h rs j hn hj hp e s of hb
    obtain ⟨n, rfl⟩ : ∃ k, n = k + 1 := ⟨n - 1, by omega⟩
    have hwr : WRS h (c + 1) 348 rs := by
      obtain ⟨G, e0, e1, e2, e3, e4⟩ := e
      exact e3
    unfold b_X0_clean_73 c_X0_clean_73
    refine wt ((zI_le (by omega)).mpr (by omega)) ?_
    refine wb (CLNX_0 e).1 ?_
    refine wb (X6_size_is hwr) ?_
    rw [show clF S.1 S.2.2.1 p q o j 0 = [] from rfl, List.append_nil]
    exact wr ⟨rfl, e, of⟩
  | succ r ih =>
    intro n h rs j hn hj hp e s of hb
    obtain ⟨n, rfl⟩ : ∃ k, n = k + 1 := ⟨n - 1, by omega⟩
    rw [clF_succ, List.length_append] at hb
    unfold b_X0_clean_73 c_X0_clean_73
    refine wf (fun d => absurd ((zI_le (by omega)).mp d) (by omega)) ?_
    refine wb (STO_w s).1 ?_
    refine wpb (X0_addRows_is e (STO_w s).2.1 hw (by omega) (j := j) (by omega) (by omega) (hL j hp (by omega)) (by omega)) ?_
    rintro h1 ⟨q1, q2⟩
    have h9 := ih n h1 _ (j + 1) (by omega) (by omega) (by omega) q1 (STO_off s q2 (by omega)) (OFF_trans of q2) (by
      rw [List.length_append]
      omega)
    rw [cast1] at h9
    rw [zl1, zI_add, clF_succ, ← List.append_assoc]
    exact h9
theorem X0_clean_is {h : HP} {c a cap cl : Nat} {rs : List WR} {L : Nat → Nat → Bool} {S : SG} (e : CLNX h c rs L) (s : STO h cl a cap S) (hw : WSOK S.1) (ho : ORD S.1) {M : Int} (hy : YOK S.2.2.1 M) (hM : M < 1000000) (hd : a + 8 ≤ c ∨ c + 158 ≤ a) {nw ol : Int} (hnw : -1000000 < nw ∧ nw < 1000000) (hol : -1000000 < ol ∧ ol < 1000000) {p q : Nat} (hs : sOf S ol = p) (he : eOf S nw = q) (hp : p ≤ q) (hq : q ≤ S.1.length) (hq2 : q ≤ 148) {o : Bool} (hoo : o = decide (ol = S.2.1.length - 1)) (hb : (clL S.1 S.2.2.1 p q o).length ≤ 348) : WP (f_X0_clean h c a (zI nw) (zI ol)) (fun r => r.1 = zI (clL S.1 S.2.2.1 p q o).length ∧ (∃ L', CLNX r.2 c (clL S.1 S.2.2.1 p q o) L') ∧ OFF c 158 h r.2) := by
  have hwr : WRS h (c + 1) 348 rs := by
    obtain ⟨G, e0, e1, e2, e3, e4⟩ := e
    exact e3
  have hrn : S.2.1.length ≤ 6 := by
    obtain ⟨fe, fy, e0, e1, e2, e3, r1, r2, c1, c2⟩ := s
    exact r1
  unfold f_X0_clean b_X0_clean_0
  refine wb (CLNX_kO e) ?_
  refine wb (CLNX_0 e).1 ?_
  refine wpb (X6_empty_is hwr) ?_
  rintro h1 ⟨q1, q2⟩
  have e1 := CLNX_res e q1 q2
  have s1 := STO_off s q2 (by omega)
  have o1 : OFF c 158 h h1 := OFF_wide q2 (by omega)
  refine wb (X3_startOf_is s1 hol) ?_
  refine wb (X3_endOf_is s1 hnw) ?_
  rw [hs, he, zl0]
  refine wf (fun d => absurd ((zI_lt (by omega)).mp d) (by omega)) ?_
  refine wb (CLNX_0 e1).2.1 ?_
  refine wb (CLNX_n e1) ?_
  refine wt ((zI_le (by omega)).mpr (by omega)) ?_
  refine wpb (X0_dropHidden_is e1 s1 hw ho hy hM hd hp hq hq2) ?_
  rintro h2 ⟨⟨L2, e2, hL2⟩, o2⟩
  have s2 := STO_off s1 o2 (by omega)
  refine wb (X3_runs_is s2) ?_
  rw [zl1, zI_sub]
  by_cases c1 : ol = S.2.1.length - 1
  · rw [decide_eq_true c1] at hoo
    subst hoo
    refine wt ((zI_inj (by omega)).mpr c1) ?_
    refine wb (STO_w s2).1 ?_
    refine wpb (X0_dropNeedless_is e2 (STO_w s2).2.1 hw S.2.2.1 (by omega) hp hq hq2 hL2) ?_
    rintro h3 ⟨⟨L3, e3, hL3⟩, o3⟩
    have h9 := clean_loop hw hd hq hq2 hL3 (h0 := h) (q - p) FU h3 [] p (by unfold FU; omega) (by omega) (Nat.le_refl _) e3 (STO_off s2 o3 (by omega)) (OFF_trans o1 (OFF_trans o2 o3)) (by
      rw [List.length_nil, Nat.zero_add]
      exact hb)
    rw [List.nil_append] at h9
    exact wm h9 fun r hr => ⟨hr.1, ⟨L3, hr.2.1⟩, hr.2.2⟩
  · rw [decide_eq_false c1] at hoo
    subst hoo
    refine wf (fun d => c1 ((zI_inj (by omega)).mp d)) ?_
    have hL3 : ∀ i, p ≤ i → i < q → ∀ k : Nat, L2 (3 + i) k = kpB S.1 S.2.2.1 p q false i k := fun i h5 h6 k => by
      rw [hL2 i h5 h6 k]
      unfold kpB
      rw [Bool.not_false, Bool.true_or, Bool.true_or, Bool.and_true]
    have h9 := clean_loop hw hd hq hq2 hL3 (h0 := h) (q - p) FU h2 [] p (by unfold FU; omega) (by omega) (Nat.le_refl _) e2 s2 (OFF_trans o1 o2) (by
      rw [List.length_nil, Nat.zero_add]
      exact hb)
    rw [List.nil_append] at h9
    exact wm h9 fun r hr => ⟨hr.1, ⟨L2, hr.2.1⟩, hr.2.2⟩
theorem len_rep {ws bs : List WR} {p q : Nat} (h1 : p ≤ q) (h2 : q ≤ ws.length) : (ws.take p ++ bs ++ ws.drop q).length = p + bs.length + (ws.length - q) := by
  rw [List.length_append, List.length_append, List.length_take, List.length_drop]
  omega
def ENS (es : List Int) (n : Nat) : Prop := (∀ i : Nat, i < es.length → 0 < iat es i ∧ iat es i ≤ n) ∧ ∀ i : Nat, i + 1 < es.length → iat es i < iat es ((i + 1 : Nat) : Int)
theorem ENS_at {es : List Int} {n : Nat} (H : ENS es n) {i : Int} (h : 0 ≤ i ∧ i < es.length) : 0 < iat es i ∧ iat es i ≤ n := by
  have := H.1 i.toNat (by omega)
  rw [show ((i.toNat : Nat) : Int) = i by omega] at this
  exact this
theorem ENS_lt {es : List Int} {n : Nat} (H : ENS es n) {i j : Int} (h : 0 ≤ i ∧ j = i + 1 ∧ j < es.length) : iat es i < iat es j := by
  have := H.2 i.toNat (by omega)
  rw [show ((i.toNat : Nat) : Int) = i by omega, show ((i.toNat + 1 : Nat) : Int) = j by omega] at this
  exact this
theorem plc {S : SG} (H : ENS S.2.1 S.1.length) {i : Int} (hi : -1 ≤ i ∧ i < S.2.1.length) : 0 ≤ sOf S i ∧ sOf S i ≤ eOf S i ∧ eOf S i ≤ S.1.length ∧ (0 ≤ i → sOf S i < eOf S i) := by
  unfold sOf eOf
  by_cases c1 : i = -1
  · subst c1
    rw [if_neg (by omega)]
    by_cases c2 : S.2.1.length = 0
    · rw [iat_out (by omega)]
      omega
    · have := ENS_at H (i := S.2.1.length - 2 - -1) (by omega)
      omega
  · have h1 := ENS_at H (i := S.2.1.length - 1 - i) (by omega)
    rw [if_pos (by omega)]
    by_cases c2 : i = S.2.1.length - 1
    · rw [iat_out (j := S.2.1.length - 2 - i) (by omega)]
      omega
    · have h2 := ENS_at H (i := S.2.1.length - 2 - i) (by omega)
      have h3 := ENS_lt H (i := S.2.1.length - 2 - i) (j := S.2.1.length - 1 - i) (by omega)
      omega
theorem plc2 (S : SG) {i : Int} (hi : -1 ≤ i ∧ i + 1 < S.2.1.length) : eOf S (i + 1) = sOf S i := by
  unfold sOf eOf
  rw [if_pos (by omega)]
  congr 1
  omega
def clP (S : SG) (nw ol : Int) : List WR := clL S.1 S.2.2.1 (sOf S ol).toNat (eOf S nw).toNat (decide (ol = S.2.1.length - 1))
def rep (S : SG) (nw ol : Int) : List WR := S.1.take (sOf S ol).toNat ++ clP S nw ol ++ S.1.drop (eOf S nw).toNat
def flK (S : SG) : List WR := clP S (-1) (-1)
def flF (S : SG) : Int := if eOf S (-1) - sOf S (-1) = 0 ∨ S.2.1.length = 5 then 1 else if sOf S (-1) + (flK S).length ≤ 48 then 0 else 1
def flS (S : SG) : SG := (rep S (-1) (-1), if 0 < (flK S).length then S.2.1 ++ [sOf S (-1) + (flK S).length] else S.2.1, S.2.2.1, S.2.2.2.1, S.2.2.2.2 + (eOf S (-1) - sOf S (-1) - (flK S).length))
def mgK (S : SG) (i : Int) : List WR := clP S i (i + 1)
def mgF (S : SG) (i : Int) : Int := if ¬ (0 ≤ i ∧ i < S.2.1.length) then 1 else if i = S.2.1.length - 1 then 2 else if S.1.length + (mgK S i).length - (eOf S i - sOf S (i + 1)) ≤ 48 then 0 else 2
def mgE (es : List Int) (o g : Nat) (sv : Int) : List Int := es.take o ++ (es.drop (o + g)).map (fun e => e - sv)
def mgG (S : SG) (i : Int) : Nat := if 0 < (mgK S i).length then 1 else 2
def mgV (S : SG) (i : Int) : Int := eOf S i - sOf S (i + 1) - (mgK S i).length
def mgS (S : SG) (i : Int) : SG := (rep S i (i + 1), mgE S.2.1 (S.2.1.length - 2 - i).toNat (mgG S i) (mgV S i), S.2.2.1, S.2.2.2.1, S.2.2.2.2 + mgV S i)
theorem mgE_len {es : List Int} {o g : Nat} {sv : Int} (h : o + g ≤ es.length) : (mgE es o g sv).length = es.length - g := by
  unfold mgE
  rw [List.length_append, List.length_take, List.length_map, List.length_drop]
  omega
theorem mgE_at {es : List Int} {o g : Nat} {sv : Int} (h : o + g ≤ es.length) {x : Int} (hx : 0 ≤ x ∧ x < es.length - g) : iat (mgE es o g sv) x = if x < o then iat es x else iat es (x + g) - sv := by
  obtain ⟨y, rfl⟩ : ∃ y : Nat, x = y := ⟨x.toNat, by omega⟩
  rw [iat_get (by rw [mgE_len h]; omega)]
  unfold mgE
  by_cases c : (y : Int) < o
  · rw [if_pos c, iat_get (by omega), List.getElem_append_left (by rw [List.length_take]; omega), List.getElem_take]
  · rw [if_neg c, show (y : Int) + g = ((y + g : Nat) : Int) by omega, iat_get (by omega), List.getElem_append_right (by rw [List.length_take]; omega), List.getElem_map, List.getElem_drop]
    congr 2
    rw [List.length_take]
    omega
def SOK (S : SG) (M : Int) : Prop := WSOK S.1 ∧ ORD S.1 ∧ ENT S.1 ∧ NUM S.1 S.2.2.2.1 ∧ YOK S.2.2.1 S.2.2.2.1 ∧ (0 ≤ S.2.2.2.1 ∧ S.2.2.2.1 ≤ M ∧ M < 1000000) ∧ ENS S.2.1 S.1.length
theorem SOK_Y {S : SG} {M : Int} (H : SOK S M) : YOK S.2.2.1 M := fun e he => by
  have := H.2.2.2.2.1 e he
  have := H.2.2.2.2.2.1
  omega
theorem SOK_up {S : SG} {M M' : Int} (H : SOK S M) (h : M ≤ M' ∧ M' < 1000000) : SOK S M' := by
  obtain ⟨h1, h2, h3, h4, h5, h6, h7⟩ := H
  exact ⟨h1, h2, h3, h4, h5, by omega, h7⟩
theorem rep_len {S : SG} {nw ol : Int} (h : 0 ≤ sOf S ol ∧ sOf S ol ≤ eOf S nw ∧ eOf S nw ≤ S.1.length) : ((rep S nw ol).length : Int) = sOf S ol + (clP S nw ol).length + (S.1.length - eOf S nw) := by
  unfold rep
  rw [len_rep (by omega) (by omega)]
  omega
theorem rep_ok {S : SG} {M : Int} (H : SOK S M) {nw ol : Int} (h : 0 ≤ sOf S ol ∧ sOf S ol ≤ eOf S nw ∧ eOf S nw ≤ S.1.length) : WSOK (rep S nw ol) ∧ ORD (rep S nw ol) ∧ ENT (rep S nw ol) ∧ NUM (rep S nw ol) S.2.2.2.1 := by
  obtain ⟨h1, h2, h3, h4, h5, h6, h7⟩ := H
  exact ⟨wcl_WSOK h1 (by omega), wcl_ORD h1 h2 (by omega) (by omega), wcl_ENT h1 h3 (by omega), wcl_NUM h1 h4 (by omega)⟩
theorem flS_ok {S : SG} {M : Int} (H : SOK S M) : SOK (flS S) M := by
  have hE := H.2.2.2.2.2.2
  have hp := plc hE (i := -1) (by omega)
  obtain ⟨r1, r2, r3, r4⟩ := rep_ok H (nw := -1) (ol := -1) (by omega)
  have hl := rep_len (S := S) (nw := -1) (ol := -1) (by omega)
  have hm := eOf_m1 S
  refine ⟨r1, r2, r3, r4, H.2.2.2.2.1, H.2.2.2.2.2.1, ?_⟩
  unfold flS
  dsimp only
  have hs : ∀ i : Nat, i < S.2.1.length → 0 < iat S.2.1 i ∧ iat S.2.1 i ≤ sOf S (-1) := by
    intro i hi
    have h0 := ENS_at hE (i := i) (by omega)
    have : ∀ d : Nat, ∀ i : Nat, i + d + 1 = S.2.1.length → iat S.2.1 i ≤ sOf S (-1) := by
      intro d
      induction d with
      | zero =>
        intro i hi
        unfold sOf
        rw [show (S.2.1.length : Int) - 2 - -1 = i by omega]
        exact Int.le_refl _
      | succ d ih =>
        intro i hi
        have h1 := ih (i + 1) (by omega)
        have h2 := hE.2 i (by omega)
        omega
    have := this (S.2.1.length - 1 - i) i (by omega)
    omega
  by_cases c : 0 < (flK S).length
  · rw [if_pos c]
    have hk : (flK S).length = (clP S (-1) (-1)).length := rfl
    constructor
    · intro i hi
      rw [List.length_append, List.length_singleton] at hi
      by_cases c2 : i = S.2.1.length
      · rw [iat_last c2]
        omega
      · rw [iat_app (by omega)]
        have := hs i (by omega)
        omega
    · intro i hi
      rw [List.length_append, List.length_singleton] at hi
      rw [iat_app (by omega)]
      by_cases c2 : i + 1 = S.2.1.length
      · rw [iat_last c2]
        have := hs i (by omega)
        omega
      · rw [iat_app (by omega)]
        exact hE.2 i (by omega)
  · rw [if_neg c]
    refine ⟨fun i hi => ?_, hE.2⟩
    have := hs i hi
    omega
theorem ENS_mono {es : List Int} {n : Nat} (H : ENS es n) {i j : Int} (h : 0 ≤ i ∧ i ≤ j ∧ j < es.length) : iat es i ≤ iat es j := by
  obtain ⟨d, hd⟩ : ∃ d : Nat, j = i + d := ⟨(j - i).toNat, by omega⟩
  subst hd
  induction d with
  | zero =>
    rw [show i + ((0 : Nat) : Int) = i by omega]
    exact Int.le_refl _
  | succ d ih =>
    have h1 := ih (by omega)
    have h2 := ENS_lt H (i := i + d) (j := i + ((d + 1 : Nat) : Int)) (by omega)
    omega
theorem mg_pre {S : SG} (hE : ENS S.2.1 S.1.length) {i : Int} (hi : 0 ≤ i ∧ i + 1 < S.2.1.length) : 0 ≤ sOf S (i + 1) ∧ sOf S (i + 1) < sOf S i ∧ sOf S i < eOf S i ∧ eOf S i ≤ S.1.length ∧ sOf S i = iat S.2.1 (S.2.1.length - 2 - i) ∧ eOf S i = iat S.2.1 (S.2.1.length - 1 - i) ∧ sOf S (i + 1) = iat S.2.1 (S.2.1.length - 3 - i) := by
  have h1 := plc hE (i := i) (by omega)
  have h2 := plc hE (i := i + 1) (by omega)
  have h3 := plc2 S (i := i) (by omega)
  have h4 : eOf S i = iat S.2.1 (S.2.1.length - 1 - i) := by
    unfold eOf
    rw [if_pos (by omega)]
  have h5 : sOf S (i + 1) = iat S.2.1 (S.2.1.length - 3 - i) := by
    unfold sOf
    congr 1
    omega
  exact ⟨by omega, by omega, by omega, by omega, rfl, h4, h5⟩
theorem mgS_ok {S : SG} {M : Int} (H : SOK S M) {i : Int} (hi : 0 ≤ i ∧ i + 1 < S.2.1.length) : SOK (mgS S i) M := by
  have hE := H.2.2.2.2.2.2
  obtain ⟨p1, p2, p3, p4, p5, p6, p7⟩ := mg_pre hE hi
  obtain ⟨r1, r2, r3, r4⟩ := rep_ok H (nw := i) (ol := i + 1) (by omega)
  have hl := rep_len (S := S) (nw := i) (ol := i + 1) (by omega)
  have hk : (mgK S i).length = (clP S i (i + 1)).length := rfl
  refine ⟨r1, r2, r3, r4, H.2.2.2.2.1, H.2.2.2.2.2.1, ?_⟩
  unfold mgS
  dsimp only
  obtain ⟨o, ho⟩ : ∃ o : Nat, (S.2.1.length : Int) - 2 - i = o := ⟨((S.2.1.length : Int) - 2 - i).toNat, by omega⟩
  have ho2 : ((S.2.1.length : Int) - 2 - i).toNat = o := by omega
  rw [ho2]
  have hg : (mgG S i = 1 ∧ 0 < (mgK S i).length) ∨ (mgG S i = 2 ∧ (mgK S i).length = 0) := by
    unfold mgG
    split <;> omega
  have hog : o + mgG S i ≤ S.2.1.length := by omega
  have hv : mgV S i = eOf S i - sOf S (i + 1) - (mgK S i).length := rfl
  rw [show (S.2.1.length : Int) - 1 - i = o + 1 by omega] at p6
  rw [show (S.2.1.length : Int) - 2 - i = o by omega] at p5
  rw [show (S.2.1.length : Int) - 3 - i = o - 1 by omega] at p7
  constructor
  · intro x hx
    rw [mgE_len hog] at hx
    rw [mgE_at hog (by omega)]
    by_cases c : (x : Int) < o
    · rw [if_pos c]
      have h1 := ENS_at hE (i := x) (by omega)
      have h2 := ENS_mono hE (i := x) (j := o - 1) (by omega)
      omega
    · rw [if_neg c]
      have h1 := ENS_at hE (i := x + mgG S i) (by omega)
      have h2 := ENS_mono hE (i := o + 1) (j := x + mgG S i) (by omega)
      have h3 : mgG S i = 2 → eOf S i < iat S.2.1 (x + mgG S i) := fun h4 => by
        have h5 := ENS_lt hE (i := o + 1) (j := o + 2) (by omega)
        have h6 := ENS_mono hE (i := o + 2) (j := x + mgG S i) (by omega)
        omega
      omega
  · intro x hx
    rw [mgE_len hog] at hx
    rw [mgE_at hog (by omega), mgE_at hog (by omega)]
    by_cases c : ((x + 1 : Nat) : Int) < o
    · rw [if_pos c, if_pos (by omega)]
      exact ENS_lt hE (by omega)
    · rw [if_neg c]
      by_cases c2 : (x : Int) < o
      · rw [if_pos c2]
        have h1 : iat S.2.1 x = sOf S (i + 1) := by
          rw [p7]
          congr 1
          omega
        have h2 := ENS_mono hE (i := o + 1) (j := ((x + 1 : Nat) : Int) + mgG S i) (by omega)
        have h3 : mgG S i = 2 → eOf S i < iat S.2.1 (((x + 1 : Nat) : Int) + mgG S i) := fun h4 => by
          have h5 := ENS_lt hE (i := o + 1) (j := o + 2) (by omega)
          have h6 := ENS_mono hE (i := o + 2) (j := ((x + 1 : Nat) : Int) + mgG S i) (by omega)
          omega
        omega
      · rw [if_neg c2]
        have := ENS_lt hE (i := x + mgG S i) (j := ((x + 1 : Nat) : Int) + mgG S i) (by omega)
        omega
theorem zm1 : (-1 : Int32) = zI (-1) := by decide
theorem clP_len {S : SG} {M : Int} (H : SOK S M) (h48 : S.1.length ≤ 48) (hY : S.2.2.1.length ≤ 2) {nw ol : Int} (h : 0 ≤ sOf S ol ∧ sOf S ol ≤ eOf S nw ∧ eOf S nw ≤ S.1.length) : (clP S nw ol).length ≤ 348 := by
  obtain ⟨h1, h2, h3, h4, h5, h6, h7⟩ := H
  exact clL_len2 h1 h3 h2 (by omega) (by omega) h48 hY
def CLN (h : HP) (c : Nat) : Prop := ∃ ws L, CLNX h c ws L
theorem CLN_off {h h' : HP} {c a' n' : Nat} (e : CLN h c) (k : OFF a' n' h h') (d : c + 158 ≤ a' ∨ a' + n' ≤ c) : CLN h' c := by
  obtain ⟨ws, L, e⟩ := e
  exact ⟨ws, L, CLNX_off e k d⟩
def FR (c a : Nat) (h h' : HP) : Prop := ∀ b, (b < c ∨ c + 158 ≤ b) → (b < a ∨ a + 8 ≤ b) → h' b = h b
theorem FR_trans {c a : Nat} {h h' h'' : HP} (e : FR c a h h') (e' : FR c a h' h'') : FR c a h h'' := fun b h1 h2 => (e' b h1 h2).trans (e b h1 h2)
theorem FR_c {c a : Nat} {h h' : HP} {a' n' : Nat} (e : OFF a' n' h h') (d : (c ≤ a' ∧ a' + n' ≤ c + 158) ∨ (a ≤ a' ∧ a' + n' ≤ a + 8)) : FR c a h h' := fun b h1 h2 => e b (by omega)
theorem clean_at {h : HP} {c a cap cl : Nat} {S : SG} (e : CLN h c) (s : STO h cl a cap S) {M : Int} (H : SOK S M) (hl : S.1.length ≤ 148) (hd : a + 8 ≤ c ∨ c + 158 ≤ a) {nw ol : Int} (hnw : -1000000 < nw ∧ nw < 1000000) (hol : -1000000 < ol ∧ ol < 1000000) (hp : 0 ≤ sOf S ol ∧ sOf S ol ≤ eOf S nw ∧ eOf S nw ≤ S.1.length) (hb : (clP S nw ol).length ≤ 348) : WP (f_X0_clean h c a (zI nw) (zI ol)) (fun r => r.1 = zI (clP S nw ol).length ∧ (∃ L', CLNX r.2 c (clP S nw ol) L') ∧ OFF c 158 h r.2) := by
  obtain ⟨ws, L, e⟩ := e
  exact X0_clean_is e s H.1 H.2.1 (SOK_Y H) H.2.2.2.2.2.1.2.2 hd hnw hol (p := (sOf S ol).toNat) (q := (eOf S nw).toNat) (by omega) (by omega) (by omega) (by omega) (by omega) rfl hb
theorem X3_canFlush_is {h : HP} {c a cap : Nat} {S : SG} (e : CLN h c) (s : STO h c a cap S) {M : Int} (H : SOK S M) (hl : S.1.length ≤ 48 ∧ S.2.1.length ≤ 5) (hd : a + 8 ≤ c ∨ c + 158 ≤ a) : WP (f_X3_canFlush h a) (fun r => r.1 = tB (flF S = 0) ∧ CLN r.2 c ∧ OFF c 158 h r.2) := by
  have hE := H.2.2.2.2.2.2
  have hp := plc hE (i := -1) (by omega)
  have hm1 := eOf_m1 S
  have hy : S.2.2.1.length ≤ 2 := by
    obtain ⟨fe, fy, e0, e1, e2, e3, r1, r2, c1, c2⟩ := s
    exact r2
  have hlen := clP_len H hl.1 hy (nw := -1) (ol := -1) (by omega)
  have hr4 : gI 3 4 h a = some (zI S.2.1.length) := by
    obtain ⟨fe, fy, e0, -⟩ := s
    exact gI_e e0 rfl
  unfold f_X3_canFlush b_X3_canFlush_0
  simp only [zm1, show (5 : Int32) = zI 5 by decide, show (48 : Int32) = zI 48 by decide]
  refine wb (STO_w s).2.2.1 ?_
  refine wb (X3_sizeOf_is s (i := -1) (by omega)) ?_
  by_cases c1 : eOf S (-1) - sOf S (-1) = 0
  · rw [zl0]
    refine wt ((zI_inj (by omega)).mpr c1) ?_
    refine wr ⟨?_, e, OFF_refl _ _ _⟩
    rw [tB_0]
    · rfl
    · unfold flF
      rw [if_pos (Or.inl c1)]
      decide
  · rw [zl0]
    refine wf (fun d => c1 ((zI_inj (by omega)).mp d)) ?_
    refine wb hr4 ?_
    by_cases c2 : S.2.1.length = 5
    · refine wf (fun d => absurd ((zI_lt (by omega)).mp d) (by omega)) ?_
      refine wr ⟨?_, e, OFF_refl _ _ _⟩
      rw [tB_0]
      · rfl
      · unfold flF
        rw [if_pos (Or.inr c2)]
        decide
    · refine wt ((zI_lt (by omega)).mpr (by omega)) ?_
      refine wb (X3_startOf_is s (i := -1) (by omega)) ?_
      refine wb (STO_w s).2.2.2 ?_
      refine wpb (clean_at e s H (by omega) hd (nw := -1) (ol := -1) (by omega) (by omega) (by omega) hlen) ?_
      rintro ⟨x, h1⟩ ⟨q1, ⟨L, q2⟩, q3⟩
      dsimp only at q1 q2 q3 ⊢
      subst q1
      rw [zI_add]
      have hF : flF S = if sOf S (-1) + (flK S).length ≤ 48 then 0 else 1 := by
        unfold flF
        rw [if_neg (by omega)]
      have hK : (flK S).length = (clP S (-1) (-1)).length := rfl
      by_cases c3 : sOf S (-1) + (flK S).length ≤ 48
      · rw [if_pos c3] at hF
        refine wf (fun d => absurd ((zI_lt (by omega)).mp d) (by omega)) ?_
        exact wr ⟨(tB_1 hF).symm, ⟨_, L, q2⟩, q3⟩
      · rw [if_neg c3] at hF
        refine wt ((zI_lt (by omega)).mpr (by omega)) ?_
        exact wr ⟨(tB_0 (by omega)).symm, ⟨_, L, q2⟩, q3⟩
theorem X3_canMerge_is {h : HP} {c a cap : Nat} {S : SG} (e : CLN h c) (s : STO h c a cap S) {M : Int} (H : SOK S M) (hl : S.1.length ≤ 48 ∧ S.2.1.length ≤ 5) (hd : a + 8 ≤ c ∨ c + 158 ≤ a) {i : Int} (hi : -2147483648 ≤ i ∧ i < 2147483648) : WP (f_X3_canMerge h a (zI i)) (fun r => r.1 = tB (mgF S i = 0) ∧ CLN r.2 c ∧ OFF c 158 h r.2) := by
  have hE := H.2.2.2.2.2.2
  have hy : S.2.2.1.length ≤ 2 := by
    obtain ⟨fe, fy, e0, e1, e2, e3, r1, r2, c1, c2⟩ := s
    exact r2
  unfold f_X3_canMerge b_X3_canMerge_0
  simp only [zl0, zl1, zI_add, show (48 : Int32) = zI 48 by decide]
  refine wb (STO_w s).2.2.1 ?_
  refine wb (X3_isRun_is s hi) ?_
  by_cases c1 : 0 ≤ i ∧ i < S.2.1.length
  · rw [tB_1 c1]
    refine wf (by decide) ?_
    refine wb (X3_isRun_is s (i := i + 1) (by omega)) ?_
    by_cases c2 : i = S.2.1.length - 1
    · rw [tB_0 (by omega)]
      refine wt rfl ?_
      refine wr ⟨?_, e, OFF_refl _ _ _⟩
      rw [tB_0]
      · rfl
      · unfold mgF
        rw [if_neg (by omega), if_pos c2]
        decide
    · rw [tB_1 (by omega)]
      refine wf (by decide) ?_
      obtain ⟨p1, p2, p3, p4, p5, p6, p7⟩ := mg_pre hE (i := i) (by omega)
      have h2 := plc2 S (i := i) (by omega)
      have hlen := clP_len H hl.1 hy (nw := i) (ol := i + 1) (by omega)
      refine wb (STO_w s).1 ?_
      refine wb (X6_size_is (STO_w s).2.1) ?_
      refine wb (X3_sizeOf_is s (i := i) (by omega)) ?_
      refine wb (X3_sizeOf_is s (i := i + 1) (by omega)) ?_
      refine wb (STO_w s).2.2.2 ?_
      refine wpb (clean_at e s H (by omega) hd (nw := i) (ol := i + 1) (by omega) (by omega) (by omega) hlen) ?_
      rintro ⟨x, h1⟩ ⟨q1, ⟨L, q2⟩, q3⟩
      dsimp only at q1 q2 q3 ⊢
      subst q1
      rw [zI_sub, zI_sub, zI_add]
      have hF : mgF S i = if S.1.length + (mgK S i).length - (eOf S i - sOf S (i + 1)) ≤ 48 then 0 else 2 := by
        unfold mgF
        rw [if_neg (by omega), if_neg c2]
      have hK : (mgK S i).length = (clP S i (i + 1)).length := rfl
      by_cases c3 : S.1.length + (mgK S i).length - (eOf S i - sOf S (i + 1)) ≤ 48
      · rw [if_pos c3] at hF
        refine wf (fun d => absurd ((zI_lt (by omega)).mp d) (by omega)) ?_
        exact wr ⟨(tB_1 hF).symm, ⟨_, L, q2⟩, q3⟩
      · rw [if_neg c3] at hF
        refine wt ((zI_lt (by omega)).mpr (by omega)) ?_
        exact wr ⟨(tB_0 (by omega)).symm, ⟨_, L, q2⟩, q3⟩
  · rw [tB_0 c1]
    refine wt rfl ?_
    refine wr ⟨?_, e, OFF_refl _ _ _⟩
    rw [tB_0]
    · rfl
    · unfold mgF
      rw [if_pos c1]
      decide
theorem X3_savedBy_is {h : HP} {c a cap : Nat} {S : SG} (e : CLN h c) (s : STO h c a cap S) {M : Int} (H : SOK S M) (hl : S.1.length ≤ 48 ∧ S.2.1.length ≤ 5) (hd : a + 8 ≤ c ∨ c + 158 ≤ a) {i : Int} (hi : 0 ≤ i ∧ i + 1 < S.2.1.length) : WP (f_X3_savedBy h a (zI i)) (fun r => r.1 = zI (mgV S i) ∧ CLN r.2 c ∧ OFF c 158 h r.2) := by
  have hE := H.2.2.2.2.2.2
  have hy : S.2.2.1.length ≤ 2 := by
    obtain ⟨fe, fy, e0, e1, e2, e3, r1, r2, c1, c2⟩ := s
    exact r2
  obtain ⟨p1, p2, p3, p4, p5, p6, p7⟩ := mg_pre hE (i := i) (by omega)
  have h2 := plc2 S (i := i) (by omega)
  have hlen := clP_len H hl.1 hy (nw := i) (ol := i + 1) (by omega)
  unfold f_X3_savedBy b_X3_savedBy_0
  simp only [zl1, zI_add]
  refine wb (STO_w s).2.2.1 ?_
  refine wb (X3_sizeOf_is s (i := i) (by omega)) ?_
  refine wb (X3_sizeOf_is s (i := i + 1) (by omega)) ?_
  refine wb (STO_w s).2.2.2 ?_
  refine wpb (clean_at e s H (by omega) hd (nw := i) (ol := i + 1) (by omega) (by omega) (by omega) hlen) ?_
  rintro ⟨x, h1⟩ ⟨q1, ⟨L, q2⟩, q3⟩
  dsimp only at q1 q2 q3 ⊢
  subst q1
  rw [zI_add, zI_sub]
  refine wr ⟨congrArg zI ?_, ⟨_, L, q2⟩, q3⟩
  unfold mgV mgK
  omega
theorem STO_few {h : HP} {cl a cap : Nat} {S : SG} (s : STO h cl a cap S) (n : Int) : WP (pI 3 7 h a (zI n)) (fun h' => STO h' cl a cap (S.1, S.2.1, S.2.2.1, S.2.2.2.1, n) ∧ OFF a 1 h h') := by
  obtain ⟨fe, fy, e0, e1, e2, e3, r1, r2, c1, c2⟩ := s
  refine weq (pI_e2 (fs2 := [.ref cl, .ref (a + 3), .ref (a + 1), .ref (a + 2), .int (zI S.2.1.length), .int (zI S.2.2.1.length), .int (zI S.2.2.2.1), .int (zI n)]) e0 (show 7 < 8 by omega) rfl) ?_
  refine ⟨⟨fe, fy, hup_same _ _ _, ARR_ne e1 (by omega), ARR_ne e2 (by omega), WRS_off e3 (OFF_up (OFF_refl a 1 h) (by omega)) (by omega), r1, r2, c1, c2⟩, OFF_up (OFF_refl _ _ _) (by omega)⟩
theorem STO_gI {h : HP} {cl a cap : Nat} {S : SG} (s : STO h cl a cap S) : gI 3 7 h a = some (zI S.2.2.2.2) ∧ gI 3 4 h a = some (zI S.2.1.length) ∧ gR 3 2 h a = some (a + 1) ∧ aN h (a + 1) = some (zI 6) := by
  obtain ⟨fe, fy, e0, e1, e2, e3, r1, r2, c1, c2⟩ := s
  exact ⟨gI_e e0 rfl, gI_e e0 rfl, gR_e e0 rfl, aN_e e1⟩
theorem CLNX_w {h : HP} {c : Nat} {ws : List WR} {L : Nat → Nat → Bool} (e : CLNX h c ws L) : WRS h (c + 1) 348 ws := by
  obtain ⟨G, e0, e1, e2, e3, e4⟩ := e
  exact e3
theorem STO_rep {h : HP} {cl a cap : Nat} {S : SG} (s : STO h cl a cap S) {c : Nat} {bs : List WR} (e : WRS h (c + 1) 348 bs) (hd : a + 8 ≤ c ∨ c + 158 ≤ a) {p q : Nat} (h1 : p ≤ q) (h2 : q ≤ S.1.length) (h3 : p + bs.length + (S.1.length - q) ≤ cap) : WP (f_X6_replace h (a + 3) (zI p) (zI q) (c + 1)) (fun h' => STO h' cl a cap (S.1.take p ++ bs ++ S.1.drop q, S.2.1, S.2.2.1, S.2.2.2.1, S.2.2.2.2) ∧ OFF (a + 3) 5 h h') := by
  obtain ⟨fe, fy, e0, e1, e2, e3, r1, r2, c1, c2⟩ := s
  refine wm (X6_replace_is e3 e (by omega) h1 h2 h3) ?_
  rintro h' ⟨q1, q2⟩
  exact ⟨⟨fe, fy, (q2 _ (by omega)).trans e0, (q2 _ (by omega)).trans e1, (q2 _ (by omega)).trans e2, q1, r1, r2, c1, c2⟩, q2⟩
