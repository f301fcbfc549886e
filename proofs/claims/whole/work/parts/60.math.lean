/-! the reference: what hides what -/
theorem rq0 {α : Type} {h : HP} {m : Nat} {S : SG} (e : REF h m S) {j : Int} (hj : 0 ≤ j ∧ j < S.1.length) (G : Int32 → Option α) : ((gR 8 1 h m).bind fun x => (f_X8_of h (zI j) 0).bind fun y => (aI h x y).bind fun z => G z) = G (zI (wat S.1 j).1) := rd0 e hj G
theorem rq1 {α : Type} {h : HP} {m : Nat} {S : SG} (e : REF h m S) {j : Int} (hj : 0 ≤ j ∧ j < S.1.length) (G : Int32 → Option α) : ((gR 8 1 h m).bind fun x => (f_X8_of h (zI j) 1).bind fun y => (aI h x y).bind fun z => G z) = G (zI (wat S.1 j).2.1) := rd1 e hj G
theorem rq2 {α : Type} {h : HP} {m : Nat} {S : SG} (e : REF h m S) {j : Int} (hj : 0 ≤ j ∧ j < S.1.length) (G : Int32 → Option α) : ((gR 8 1 h m).bind fun x => (f_X8_of h (zI j) 2).bind fun y => (aI h x y).bind fun z => G z) = G (zI (wat S.1 j).2.2.1) := rd2 e hj G
theorem rq3 {α : Type} {h : HP} {m : Nat} {S : SG} (e : REF h m S) {j : Int} (hj : 0 ≤ j ∧ j < S.1.length) (G : Int32 → Option α) : ((gR 8 1 h m).bind fun x => (f_X8_of h (zI j) 3).bind fun y => (aI h x y).bind fun z => G z) = G (zI (wat S.1 j).2.2.2) := rd3 e hj G
def ptB (Y : List Int) (a b : Int) (i : Nat) : Bool := decide (a ≤ iat Y i) && decide (iat Y i < b)
theorem areParted_loop {h : HP} {m : Nat} {S : SG} (e : REF h m S) {M : Int} (hy : YOK S.2.2.1 M) (hM : M < 1000000) {a b : Int} (ha : -1000000 < a ∧ a < 1000000) (hb : -1000000 < b ∧ b < 1000000) : ∀ (r n : Nat) (t : Bool) (j : Nat), r < n → j + r = S.2.2.1.length → b_X8_areParted_5 h m (zI a) (zI b) n (tB (t = true)) (zI j) = some (tB ((t || exB (ptB S.2.2.1 a b) j r) = true)) := by
  obtain ⟨v, f, e0, e1, ⟨b1, b2, b3⟩, q0, q1, q2, q3, q4, q5, q6, q7⟩ := e
  intro r
  induction r with
  | zero =>
    intro n t j hn hj
    obtain ⟨n, rfl⟩ : ∃ k, n = k + 1 := ⟨n - 1, by omega⟩
    unfold b_X8_areParted_5 c_X8_areParted_5
    simp only [show (7 : Int32) = zI 7 by decide]
    rw [gR_e e0 rfl, Option.bind_some, aI_v e1 (z := 7) (by omega) q3, Option.bind_some, if_pos ((zI_le (by omega)).mpr (by omega)), bz_tB]
    rw [show exB (ptB S.2.2.1 a b) j 0 = false from rfl, Bool.or_false]
  | succ r ih =>
    intro n t j hn hj
    obtain ⟨n, rfl⟩ : ∃ k, n = k + 1 := ⟨n - 1, by omega⟩
    have h1 := ih n true (j + 1) (by omega) (by omega)
    have h2 := ih n false (j + 1) (by omega) (by omega)
    rw [cast1, tB_1 rfl] at h1
    rw [cast1, tB_0 (by decide)] at h2
    have hm := hy _ (iat_mem (l := S.2.2.1) (j := j) (by omega))
    have h4 := q4 j (by omega)
    have h9 : aI h (m + 1) (zI (8 + j)) = some (zI (iat S.2.2.1 j)) := aI_v e1 (by omega) (by rw [show (8 + (j : Int)).toNat = 8 + j by omega]; exact h4)
    unfold b_X8_areParted_5 c_X8_areParted_5
    simp only [show (7 : Int32) = zI 7 by decide, show (8 : Int32) = zI 8 by decide]
    rw [gR_e e0 rfl, Option.bind_some, aI_v e1 (z := 7) (by omega) q3, Option.bind_some, if_neg (fun d => absurd ((zI_le (by omega)).mp d) (by omega)), show zI (j : Int) + 1 = zI ((j : Int) + 1) by rw [zl1, zI_add], h1, h2, exB_succ]
    cases t with
    | true =>
      rw [tB_1 rfl, if_neg (by decide), Bool.true_or, Bool.true_or]
    | false =>
      rw [tB_0 (by decide), if_pos rfl, Option.bind_some, zI_add, h9, Option.bind_some, Bool.false_or, Bool.false_or]
      by_cases c1 : iat S.2.2.1 j < a
      · rw [if_pos ((zI_lt (by omega)).mpr c1), show ptB S.2.2.1 a b j = false by unfold ptB; rw [decide_eq_false (by omega)]; rfl, Bool.false_or]
      · rw [if_neg (fun d => c1 ((zI_lt (by omega)).mp d)), Option.bind_some, h9, Option.bind_some]
        by_cases c2 : b ≤ iat S.2.2.1 j
        · rw [if_pos ((zI_le (by omega)).mpr c2), show ptB S.2.2.1 a b j = false by unfold ptB; rw [decide_eq_false (show ¬ iat S.2.2.1 j < b by omega), Bool.and_false], Bool.false_or]
        · rw [if_neg (fun d => c2 ((zI_le (by omega)).mp d)), show ptB S.2.2.1 a b j = true by unfold ptB; rw [decide_eq_true (show iat S.2.2.1 j < b by omega), decide_eq_true (show a ≤ iat S.2.2.1 j by omega)]; rfl, Bool.true_or]
theorem X8_areParted_is {h : HP} {m : Nat} {S : SG} (e : REF h m S) {M : Int} (hy : YOK S.2.2.1 M) (hM : M < 1000000) {a b : Int} (ha : -1000000 < a ∧ a < 1000000) (hb : -1000000 < b ∧ b < 1000000) : f_X8_areParted h m (zI a) (zI b) = some (tB (exB (ptB S.2.2.1 a b) 0 S.2.2.1.length = true)) := by
  have h1 := areParted_loop e hy hM ha hb S.2.2.1.length FU false 0 (by have := (REF_b e).1; unfold FU; omega) (by omega)
  unfold f_X8_areParted b_X8_areParted_0
  rw [(REF_b e).2, Option.bind_some, zl0]
  rw [tB_0 (by decide), zl0, Bool.false_or] at h1
  exact h1
/-- write i hides key k of write j, as the reference says it -/
def covB (ws : List WR) (Y : List Int) (j : Nat) (k : Int) (g : Bool) (i : Nat) : Bool := decide ((wat ws j).1 < (wat ws i).1) && wcB (wat ws i) k && (!g || !enB (wat ws i)) && !exB (ptB Y (wat ws j).1 (wat ws i).1) 0 Y.length
theorem isCovered_66 {h : HP} {m : Nat} {S : SG} (e : REF h m S) (hw : WSOK S.1) {M : Int} (hy : YOK S.2.2.1 M) (hM : M < 1000000) {j i : Nat} (hj : j < S.1.length) (hi : i < S.1.length) {v2 v4 v5 : Int32} {k6 : Int32 → Int32 → Option Int32} (t s : Bool) : b_X8_isCovered_66 h m (zI j) v2 v4 v5 k6 (tB (t = true)) (zI i) (tB (s = true)) = k6 (tB ((t || (s && !exB (ptB S.2.2.1 (wat S.1 j).1 (wat S.1 i).1) 0 S.2.2.1.length)) = true)) (zI ((i : Int) + 1)) := by
  have hwj := WOK_at hw (j := (j : Int)) (by omega)
  have hwi := WOK_at hw (j := (i : Int)) (by omega)
  unfold WOK at hwj hwi
  have r0 := fun α => rq0 (α := α) e (j := (j : Int)) (by omega)
  have r1 := fun α => rq0 (α := α) e (j := (i : Int)) (by omega)
  have h3 := X8_areParted_is e hy hM (a := (wat S.1 j).1) (b := (wat S.1 i).1) (by omega) (by omega)
  unfold b_X8_isCovered_66
  cases t with
  | true =>
    rw [tB_1 rfl, if_neg (by decide), Bool.true_or, tB_1 rfl, zl1, zI_add]
  | false =>
    rw [tB_0 (by decide), if_pos rfl, Bool.false_or]
    cases s with
    | false =>
      rw [tB_0 (by decide), if_pos rfl, Bool.false_and, tB_0 (by decide), zl1, zI_add]
    | true =>
      rw [tB_1 rfl, if_neg (by decide), r0, r1, h3, Option.bind_some, Bool.true_and, zl1, zI_add]
      by_cases c : exB (ptB S.2.2.1 (wat S.1 j).1 (wat S.1 i).1) 0 S.2.2.1.length = true
      · rw [tB_1 c, if_neg (by decide), c, tB_0 (by decide)]
      · rw [tB_0 c, if_pos rfl, Bool.eq_false_iff.mpr c, tB_1 (p := (!false) = true) rfl]
        rfl
theorem isCovered_loop {h : HP} {m : Nat} {S : SG} (e : REF h m S) (hw : WSOK S.1) {M : Int} (hy : YOK S.2.2.1 M) (hM : M < 1000000) {j : Nat} (hj : j < S.1.length) {k : Int} (hk : -1000000 < k ∧ k < 1000000) {q : Nat} (hq : q ≤ S.1.length) (g : Bool) : ∀ (r n : Nat) (t : Bool) (i : Nat), r < n → i + r = q → b_X8_isCovered_6 h m (zI j) (zI k) (zI q) (tB (g = true)) n (tB (t = true)) (zI i) = some (tB ((t || exB (covB S.1 S.2.2.1 j k g) i r) = true)) := by
  have hb := (REF_b e).1
  intro r
  induction r with
  | zero =>
    intro n t i hn hi
    obtain ⟨n, rfl⟩ : ∃ k, n = k + 1 := ⟨n - 1, by omega⟩
    unfold b_X8_isCovered_6 c_X8_isCovered_6
    rw [if_pos ((zI_le (by omega)).mpr (by omega)), bz_tB, show exB (covB S.1 S.2.2.1 j k g) i 0 = false from rfl, Bool.or_false]
  | succ r ih =>
    intro n t i hn hi
    obtain ⟨n, rfl⟩ : ∃ k, n = k + 1 := ⟨n - 1, by omega⟩
    have hwj := WOK_at hw (j := (j : Int)) (by omega)
    have hwi := WOK_at hw (j := (i : Int)) (by omega)
    unfold WOK at hwj hwi
    have r0 := fun α => rq0 (α := α) e (j := (j : Int)) (by omega)
    have r1 := fun α => rq0 (α := α) e (j := (i : Int)) (by omega)
    have key : ∀ s : Bool, s = (decide ((wat S.1 j).1 < (wat S.1 i).1) && wcB (wat S.1 i) k && (!g || !enB (wat S.1 i))) → b_X8_isCovered_66 h m (zI j) (zI k) (zI q) (tB (g = true)) (b_X8_isCovered_6 h m (zI j) (zI k) (zI q) (tB (g = true)) n) (tB (t = true)) (zI i) (tB (s = true)) = some (tB ((t || exB (covB S.1 S.2.2.1 j k g) i (r + 1)) = true)) := fun s hs => by
      rw [isCovered_66 e hw hy hM hj (by omega), ← cast1, ih n _ (i + 1) (by omega) (by omega), exB_succ, hs, Bool.or_assoc]
      rfl
    have k0 := key false
    have k1 := key true
    rw [tB_0 (p := false = true) (by decide)] at k0
    rw [tB_1 (p := true = true) rfl] at k1
    unfold b_X8_isCovered_6 c_X8_isCovered_6
    rw [if_neg (fun d => absurd ((zI_le (by omega)).mp d) (by omega)), r1, r0]
    by_cases c1 : (wat S.1 j).1 < (wat S.1 i).1
    · rw [if_neg (fun d => absurd ((zI_le (by omega)).mp d) (by omega)), X8_concerns_is e hw (by omega) (by omega), Option.bind_some]
      rw [decide_eq_true c1, Bool.true_and] at k0 k1
      by_cases c2 : (wat S.1 i).2.1 ≤ k ∧ k ≤ (wat S.1 i).2.2.1
      · rw [tB_1 c2, if_neg (by decide)]
        rw [wcB_iff.mpr c2, Bool.true_and] at k0 k1
        cases g with
        | false =>
          rw [if_pos (tB_0 (by decide))]
          exact k1 rfl
        | true =>
          rw [if_neg (by rw [tB_1 rfl]; decide), X8_isEntry_is e hw (by omega), Option.bind_some]
          by_cases c3 : 0 < (wat S.1 i).2.2.2
          · rw [tB_1 c3, if_neg (by decide)]
            exact k0 (by rw [enB_iff.mpr c3]; rfl)
          · rw [tB_0 c3, if_pos rfl]
            exact k1 (by rw [show enB (wat S.1 i) = false from decide_eq_false c3]; rfl)
      · rw [tB_0 c2, if_pos rfl]
        exact k0 (by rw [show wcB (wat S.1 i) k = false from decide_eq_false c2]; rfl)
    · rw [if_pos ((zI_le (by omega)).mpr (by omega))]
      exact k0 (by rw [decide_eq_false c1]; rfl)
theorem X8_isCovered_is {h : HP} {m : Nat} {S : SG} (e : REF h m S) (hw : WSOK S.1) {M : Int} (hy : YOK S.2.2.1 M) (hM : M < 1000000) {j : Nat} (hj : j < S.1.length) {k : Int} (hk : -1000000 < k ∧ k < 1000000) {p q : Nat} (hp : p ≤ q) (hq : q ≤ S.1.length) (g : Bool) : f_X8_isCovered h m (zI j) (zI k) (zI p) (zI q) (tB (g = true)) = some (tB (exB (covB S.1 S.2.2.1 j k g) p (q - p) = true)) := by
  have h1 := isCovered_loop e hw hy hM hj hk hq g (q - p) FU false p (by have := (REF_b e).1; unfold FU; omega) (by omega)
  unfold f_X8_isCovered b_X8_isCovered_0
  rw [(REF_b e).2, Option.bind_some]
  rw [tB_0 (p := false = true) (by decide), Bool.false_or] at h1
  exact h1
theorem cov_hid {ws : List WR} {Y : List Int} (ho : ORD ws) {p q j : Nat} (hp : p ≤ j) (hj : j < q) (hq : q ≤ ws.length) {k : Int} (hk : wcB (wat ws j) k = true) {g : Bool} (hg : g = !enB (wat ws j)) : exB (covB ws Y j k g) p (q - p) = exB (hidB ws Y j k) (j + 1) (q - (j + 1)) := by
  refine Beq (exB_iff.trans (Iff.trans ?_ exB_iff.symm))
  subst hg
  rw [wcB_iff] at hk
  have hpart : ∀ i, (wat ws j).1 < (wat ws i).1 → ((!exB (ptB Y (wat ws j).1 (wat ws i).1) 0 Y.length) = true ↔ eB Y (wat ws i).1 = eB Y (wat ws j).1) := fun i hi => by
    have := part_iff Y (a := (wat ws j).1) (b := (wat ws i).1) (by omega)
    rw [Bool.not_eq_true', ← Bool.not_eq_true]
    unfold ptB
    rw [this]
    exact Decidable.not_not
  unfold covB hidB
  simp only [Bool.and_eq_true, decide_eq_true_eq, Bool.not_not]
  constructor
  · rintro ⟨i, h1, h2, ⟨⟨h3, h4⟩, h5⟩, h6⟩
    have h7 : j < i := by
      rcases Nat.lt_trichotomy i j with c | c | c
      · have := NUM_le ho (i := i) (j := j) (by omega) (by omega)
        omega
      · subst c
        omega
      · exact c
    exact ⟨i, by omega, by omega, ⟨(hpart i h3).mp h6, h4⟩, h5⟩
  · rintro ⟨i, h1, h2, ⟨h3, h4⟩, h5⟩
    have h7 := ho j i (by omega) (by omega)
    rw [wcB_iff] at h4
    have h8 : (wat ws j).1 < (wat ws i).1 := by omega
    exact ⟨i, by omega, by omega, ⟨⟨h8, wcB_iff.mpr h4⟩, h5⟩, (hpart i h8).mpr h3⟩
