/-! the reference cleans -/
theorem MOB_ne {h : HP} {m b : Nat} {v : Nat → Int32} {e : CE} (H : MOB h m v) (hb : m ≠ b) : MOB (hup h b e) m v := (hup_ne _ _ hb).trans H
theorem aZ_e {h : HP} {a n : Nat} {f : Nat → Int32} {z : Int} (e : h a = some (.inl (1, n, .inl f))) (hz : 0 ≤ z ∧ z < n ∧ (n : Int) < 2147483648) : aZ h a (zI z) = some (f z.toNat) := by
  have h1 := zI_in hz
  unfold aZ
  rw [e]
  simp only [if_true]
  rw [if_neg h1, zI_clamp (by omega)]
theorem wZ_e {h : HP} {a n : Nat} {f : Nat → Int32} {z : Int} (e : h a = some (.inl (1, n, .inl f))) (hz : 0 ≤ z ∧ z < n ∧ (n : Int) < 2147483648) (b : Bool) : wZ h a (zI z) (tB (b = true)) = some (hup h a (.inl (1, n, .inl (upd f z.toNat (tB (b = true)))))) := by
  have h1 := zI_in hz
  unfold wZ
  rw [e]
  simp only [if_true]
  rw [if_neg h1, zI_clamp (by omega)]
  cases b <;> rfl
def LWS (g : Nat → Int32) (ls : List WR) : Prop := ∀ j : Nat, j < ls.length → g (4 * j) = zI (wat ls j).1 ∧ g (4 * j + 1) = zI (wat ls j).2.1 ∧ g (4 * j + 2) = zI (wat ls j).2.2.1 ∧ g (4 * j + 3) = zI (wat ls j).2.2.2
/-- the reference while it cleans: what is laid out, what is dropped -/
def CLR (h : HP) (m : Nat) (v : Nat → Int32) (S : SG) (ls : List WR) (D : Nat → Bool) : Prop := MOB h m v ∧ (∃ f, ARR h (m + 1) 204 f ∧ RW f S) ∧ v 10 = zI ls.length ∧ (∃ g, ARR h (m + 7) 1600 g ∧ LWS g ls) ∧ ls.length ≤ 400 ∧ ∃ d, h (m + 8) = some (.inl (1, 48, .inl d)) ∧ ∀ i : Nat, i < 48 → d i = tB (D i = true)
def OFC (m : Nat) (h h' : HP) : Prop := ∀ b, b ≠ m → b ≠ m + 7 → b ≠ m + 8 → h' b = h b
theorem OFC_trans {m : Nat} {h h' h'' : HP} (e : OFC m h h') (e' : OFC m h' h'') : OFC m h h'' := fun b h1 h2 h3 => (e' b h1 h2 h3).trans (e b h1 h2 h3)
theorem OFC_up {m : Nat} {h h' : HP} {c : Nat} {e : CE} (g : OFC m h h') (hc : c = m ∨ c = m + 7 ∨ c = m + 8) : OFC m h (hup h' c e) := fun b h1 h2 h3 => (hup_ne _ _ (by omega)).trans (g b h1 h2 h3)
theorem CLR_R {h : HP} {m : Nat} {v : Nat → Int32} {S : SG} {ls : List WR} {D : Nat → Bool} (e : CLR h m v S ls D) : REF h m S := by
  obtain ⟨k0, ⟨f, k1, q⟩, r⟩ := e
  exact ⟨v, f, k0, k1, q⟩
def oldB (ws : List WR) (D : Nat → Bool) (j : Nat) (k : Int) (i : Nat) : Bool := enB (wat ws i) && !D i && decide ((wat ws i).1 < (wat ws j).1) && wcB (wat ws i) k
theorem hasOlder_loop {h : HP} {m : Nat} {v : Nat → Int32} {S : SG} {ls : List WR} {D : Nat → Bool} (e : CLR h m v S ls D) (hw : WSOK S.1) {j : Nat} (hj : j < S.1.length) {k : Int} (hk : -1000000 < k ∧ k < 1000000) {q : Nat} (hq : q ≤ S.1.length) : ∀ (r n : Nat) (t : Bool) (i : Nat), r < n → i + r = q → b_X8_hasOlderEntry_6 h m (zI j) (zI k) (zI q) n (tB (t = true)) (zI i) = some (tB ((t || exB (oldB S.1 D j k) i r) = true)) := by
  have e0 := CLR_R e
  have hb := (REF_b e0).1
  obtain ⟨k0, ⟨f, k1, kq⟩, k2, ⟨g, k3, k4⟩, k5, ⟨d, k6, k7⟩⟩ := e
  intro r
  induction r with
  | zero =>
    intro n t i hn hi
    obtain ⟨n, rfl⟩ : ∃ k, n = k + 1 := ⟨n - 1, by omega⟩
    unfold b_X8_hasOlderEntry_6 c_X8_hasOlderEntry_6
    rw [if_pos ((zI_le (by omega)).mpr (by omega)), bz_tB, show exB (oldB S.1 D j k) i 0 = false from rfl, Bool.or_false]
  | succ r ih =>
    intro n t i hn hi
    obtain ⟨n, rfl⟩ : ∃ k, n = k + 1 := ⟨n - 1, by omega⟩
    have hwj := WOK_at hw (j := (j : Int)) (by omega)
    have hwi := WOK_at hw (j := (i : Int)) (by omega)
    unfold WOK at hwj hwi
    have r0 := fun α => rq0 (α := α) e0 (j := (j : Int)) (by omega)
    have r1 := fun α => rq0 (α := α) e0 (j := (i : Int)) (by omega)
    have h1 := ih n true (i + 1) (by omega) (by omega)
    have h2 := ih n false (i + 1) (by omega) (by omega)
    rw [cast1, tB_1 (p := true = true) rfl] at h1
    rw [cast1, tB_0 (p := false = true) (by decide)] at h2
    have h8 : aZ h (m + 8) (zI i) = some (tB (D i = true)) := by
      rw [aZ_e k6 (by omega), Int.toNat_natCast, k7 i (by omega)]
    unfold b_X8_hasOlderEntry_6 c_X8_hasOlderEntry_6
    rw [if_neg (fun d => absurd ((zI_le (by omega)).mp d) (by omega)), show zI (i : Int) + 1 = zI ((i : Int) + 1) by rw [zl1, zI_add], h1, h2, exB_succ]
    cases t with
    | true => rw [tB_1 (p := true = true) rfl, if_neg (by decide), Bool.true_or, Bool.true_or]
    | false =>
      rw [tB_0 (p := false = true) (by decide), if_pos rfl, X8_isEntry_is e0 hw (by omega), Option.bind_some, Bool.false_or, Bool.false_or]
      have fin : ∀ b : Bool, oldB S.1 D j k i = b → some (tB ((b || exB (oldB S.1 D j k) (i + 1) r) = true)) = some (tB ((oldB S.1 D j k i || exB (oldB S.1 D j k) (i + 1) r) = true)) := fun b hb => by rw [hb]
      by_cases c1 : 0 < (wat S.1 i).2.2.2
      · rw [tB_1 c1, if_neg (by decide), gR_e k0 rfl, Option.bind_some, h8, Option.bind_some]
        by_cases c2 : D i = true
        · rw [tB_1 c2, if_neg (by decide)]
          exact fin false (by unfold oldB; rw [c2]; simp)
        · rw [tB_0 c2, if_pos rfl, r1, r0]
          by_cases c3 : (wat S.1 i).1 < (wat S.1 j).1
          · rw [if_neg (fun d => absurd ((zI_le (by omega)).mp d) (by omega)), X8_concerns_is e0 hw (by omega) (by omega), Option.bind_some]
            by_cases c4 : (wat S.1 i).2.1 ≤ k ∧ k ≤ (wat S.1 i).2.2.1
            · rw [tB_1 c4, if_neg (by decide)]
              exact fin true (by unfold oldB; rw [enB_iff.mpr c1, Bool.eq_false_iff.mpr c2, decide_eq_true c3, wcB_iff.mpr c4]; rfl)
            · rw [tB_0 c4, if_pos rfl]
              exact fin false (by unfold oldB; rw [show wcB (wat S.1 i) k = false from decide_eq_false c4]; simp)
          · rw [if_pos ((zI_le (by omega)).mpr (by omega))]
            exact fin false (by unfold oldB; rw [decide_eq_false c3]; simp)
      · rw [tB_0 c1, if_pos rfl]
        exact fin false (by unfold oldB; rw [show enB (wat S.1 i) = false from decide_eq_false c1]; rfl)
theorem X8_hasOlder_is {h : HP} {m : Nat} {v : Nat → Int32} {S : SG} {ls : List WR} {D : Nat → Bool} (e : CLR h m v S ls D) (hw : WSOK S.1) {j : Nat} (hj : j < S.1.length) {k : Int} (hk : -1000000 < k ∧ k < 1000000) {p q : Nat} (hp : p ≤ q) (hq : q ≤ S.1.length) : f_X8_hasOlderEntry h m (zI j) (zI k) (zI p) (zI q) = some (tB (exB (oldB S.1 D j k) p (q - p) = true)) := by
  have hb := REF_b (CLR_R e)
  have h1 := hasOlder_loop e hw hj hk hq (q - p) FU false p (by unfold FU; omega) (by omega)
  unfold f_X8_hasOlderEntry b_X8_hasOlderEntry_0
  rw [hb.2, Option.bind_some]
  rw [tB_0 (p := false = true) (by decide), Bool.false_or] at h1
  exact h1
theorem old_exB {ws : List WR} {Y : List Int} (ho : ORD ws) (he : ENT ws) {D : Nat → Bool} {p q j : Nat} (hp : p ≤ j) (hj : j < q) (hq : q ≤ ws.length) (hD : ∀ i, p ≤ i → i < q → D i = (enB (wat ws i) && !k1B ws Y q i (wat ws i).2.1)) {k : Int} (hk : wcB (wat ws j) k = true) : exB (oldB ws D j k) p (q - p) = exB (fun i => enB (wat ws i) && k1B ws Y q i k) p (j - p) := by
  refine Beq (exB_iff.trans (Iff.trans ?_ exB_iff.symm))
  rw [wcB_iff] at hk
  unfold oldB
  simp only [Bool.and_eq_true, decide_eq_true_eq, Bool.not_eq_true', wcB_iff]
  have hent : ∀ i, i < q → enB (wat ws i) = true → (wat ws i).2.1 ≤ k → k ≤ (wat ws i).2.2.1 → (wat ws i).2.1 = k := fun i h1 h2 h3 h4 => by
    have := he _ (wat_mem (ws := ws) (j := (i : Int)) (by omega)) (enB_iff.mp h2)
    omega
  constructor
  · rintro ⟨i, h1, h2, ⟨⟨h3, h4⟩, h5⟩, h6⟩
    have h7 : i < j := by
      rcases Nat.lt_or_ge i j with c | c
      · exact c
      · have := NUM_le ho (i := j) (j := i) c (by omega)
        omega
    rw [hD i h1 (by omega), h3, hent i (by omega) h3 h6.1 h6.2, Bool.true_and, Bool.not_eq_false'] at h4
    exact ⟨i, h1, by omega, h3, h4⟩
  · rintro ⟨i, h1, h2, h3, h4⟩
    have h5 : wcB (wat ws i) k = true := by
      unfold k1B at h4
      rw [Bool.and_eq_true] at h4
      exact h4.1
    rw [wcB_iff] at h5
    have h6 := ho i j (by omega) (by omega)
    refine ⟨i, h1, by omega, ⟨⟨h3, ?_⟩, by omega⟩, h5⟩
    rw [hD i h1 (by omega), h3, hent i (by omega) h3 h5.1 h5.2, h4]
    rfl
theorem X8_leave_is {h : HP} {m : Nat} {v : Nat → Int32} {S : SG} {ls : List WR} {D : Nat → Bool} (e : CLR h m v S ls D) {j : Nat} (hj : j < S.1.length) (a b : Int) (hl : ls.length < 400) : WP (f_X8_leave h m (zI j) (zI a) (zI b)) (fun h' => CLR h' m (upd v 10 (zI (ls.length + 1))) S (ls ++ [((wat S.1 j).1, a, b, (wat S.1 j).2.2.2)]) D ∧ OFC m h h') := by
  obtain ⟨k0, ⟨f, k1, kq⟩, k2, ⟨g, k3, k4⟩, k5, ⟨d, k6, k7⟩⟩ := e
  unfold f_X8_leave b_X8_leave_0
  refine wb (kO_e k0) ?_
  refine wb (gR_e k0 rfl) ?_
  refine wb (gI_e k0 rfl) ?_
  rw [rq0 ⟨v, f, k0, k1, kq⟩ (by omega), k2]
  simp only [show (4 : Int32) = zI 4 by decide, zI_mul]
  refine wb (wI_e k3 (by omega)) ?_
  have o1 : OFC m h (hup h (m + 7) (.inl (0, 1600, .inl (upd g (4 * (ls.length : Int)).toNat (zI (wat S.1 j).1))))) := OFC_up (fun _ _ _ _ => rfl) (by omega)
  have k0 := MOB_ne (e := .inl (0, 1600, .inl (upd g (4 * (ls.length : Int)).toNat (zI (wat S.1 j).1)))) k0 (show m ≠ m + 7 by omega)
  have k1 := ARR_ne (e := .inl (0, 1600, .inl (upd g (4 * (ls.length : Int)).toNat (zI (wat S.1 j).1)))) k1 (show m + 1 ≠ m + 7 by omega)
  have k6 := (hup_ne h (e := .inl (0, 1600, .inl (upd g (4 * (ls.length : Int)).toNat (zI (wat S.1 j).1)))) (show m + 8 ≠ m + 7 by omega)).trans k6
  have k3 := ARR_eq h (m + 7) 1600 (upd g (4 * (ls.length : Int)).toNat (zI (wat S.1 j).1))
  generalize hup h (m + 7) _ = h1 at *
  refine wb (gR_e k0 rfl) ?_
  refine wb (gI_e k0 rfl) ?_
  simp only [k2, zI_mul, zl1, zI_add]
  refine wb (wI_e k3 (by omega)) ?_
  have o2 := OFC_up (c := m + 7) (e := .inl (0, 1600, .inl (upd (upd g (4 * (ls.length : Int)).toNat (zI (wat S.1 j).1)) (4 * (ls.length : Int) + 1).toNat (zI a)))) o1 (by omega)
  have k0 := MOB_ne (e := .inl (0, 1600, .inl (upd (upd g (4 * (ls.length : Int)).toNat (zI (wat S.1 j).1)) (4 * (ls.length : Int) + 1).toNat (zI a)))) k0 (show m ≠ m + 7 by omega)
  have k1 := ARR_ne (e := .inl (0, 1600, .inl (upd (upd g (4 * (ls.length : Int)).toNat (zI (wat S.1 j).1)) (4 * (ls.length : Int) + 1).toNat (zI a)))) k1 (show m + 1 ≠ m + 7 by omega)
  have k6 := (hup_ne h1 (e := .inl (0, 1600, .inl (upd (upd g (4 * (ls.length : Int)).toNat (zI (wat S.1 j).1)) (4 * (ls.length : Int) + 1).toNat (zI a)))) (show m + 8 ≠ m + 7 by omega)).trans k6
  have k3 := ARR_eq h1 (m + 7) 1600 (upd (upd g (4 * (ls.length : Int)).toNat (zI (wat S.1 j).1)) (4 * (ls.length : Int) + 1).toNat (zI a))
  generalize hup h1 (m + 7) _ = h2 at *
  refine wb (gR_e k0 rfl) ?_
  refine wb (gI_e k0 rfl) ?_
  simp only [k2, zI_mul, show (2 : Int32) = zI 2 by decide, zI_add]
  refine wb (wI_e k3 (by omega)) ?_
  have o3 := OFC_up (c := m + 7) (e := .inl (0, 1600, .inl (upd (upd (upd g (4 * (ls.length : Int)).toNat (zI (wat S.1 j).1)) (4 * (ls.length : Int) + 1).toNat (zI a)) (4 * (ls.length : Int) + 2).toNat (zI b)))) o2 (by omega)
  have k0 := MOB_ne (e := .inl (0, 1600, .inl (upd (upd (upd g (4 * (ls.length : Int)).toNat (zI (wat S.1 j).1)) (4 * (ls.length : Int) + 1).toNat (zI a)) (4 * (ls.length : Int) + 2).toNat (zI b)))) k0 (show m ≠ m + 7 by omega)
  have k1 := ARR_ne (e := .inl (0, 1600, .inl (upd (upd (upd g (4 * (ls.length : Int)).toNat (zI (wat S.1 j).1)) (4 * (ls.length : Int) + 1).toNat (zI a)) (4 * (ls.length : Int) + 2).toNat (zI b)))) k1 (show m + 1 ≠ m + 7 by omega)
  have k6 := (hup_ne h2 (e := .inl (0, 1600, .inl (upd (upd (upd g (4 * (ls.length : Int)).toNat (zI (wat S.1 j).1)) (4 * (ls.length : Int) + 1).toNat (zI a)) (4 * (ls.length : Int) + 2).toNat (zI b)))) (show m + 8 ≠ m + 7 by omega)).trans k6
  have k3 := ARR_eq h2 (m + 7) 1600 (upd (upd (upd g (4 * (ls.length : Int)).toNat (zI (wat S.1 j).1)) (4 * (ls.length : Int) + 1).toNat (zI a)) (4 * (ls.length : Int) + 2).toNat (zI b))
  generalize hup h2 (m + 7) _ = h3 at *
  refine wb (gR_e k0 rfl) ?_
  refine wb (gI_e k0 rfl) ?_
  rw [rq3 ⟨v, f, k0, k1, kq⟩ (by omega)]
  simp only [k2, zI_mul, show (3 : Int32) = zI 3 by decide, zI_add]
  refine wb (wI_e k3 (by omega)) ?_
  have o4 := OFC_up (c := m + 7) (e := .inl (0, 1600, .inl (upd (upd (upd (upd g (4 * (ls.length : Int)).toNat (zI (wat S.1 j).1)) (4 * (ls.length : Int) + 1).toNat (zI a)) (4 * (ls.length : Int) + 2).toNat (zI b)) (4 * (ls.length : Int) + 3).toNat (zI (wat S.1 j).2.2.2)))) o3 (by omega)
  have k0 := MOB_ne (e := .inl (0, 1600, .inl (upd (upd (upd (upd g (4 * (ls.length : Int)).toNat (zI (wat S.1 j).1)) (4 * (ls.length : Int) + 1).toNat (zI a)) (4 * (ls.length : Int) + 2).toNat (zI b)) (4 * (ls.length : Int) + 3).toNat (zI (wat S.1 j).2.2.2)))) k0 (show m ≠ m + 7 by omega)
  have k1 := ARR_ne (e := .inl (0, 1600, .inl (upd (upd (upd (upd g (4 * (ls.length : Int)).toNat (zI (wat S.1 j).1)) (4 * (ls.length : Int) + 1).toNat (zI a)) (4 * (ls.length : Int) + 2).toNat (zI b)) (4 * (ls.length : Int) + 3).toNat (zI (wat S.1 j).2.2.2)))) k1 (show m + 1 ≠ m + 7 by omega)
  have k6 := (hup_ne h3 (e := .inl (0, 1600, .inl (upd (upd (upd (upd g (4 * (ls.length : Int)).toNat (zI (wat S.1 j).1)) (4 * (ls.length : Int) + 1).toNat (zI a)) (4 * (ls.length : Int) + 2).toNat (zI b)) (4 * (ls.length : Int) + 3).toNat (zI (wat S.1 j).2.2.2)))) (show m + 8 ≠ m + 7 by omega)).trans k6
  have k3 := ARR_eq h3 (m + 7) 1600 (upd (upd (upd (upd g (4 * (ls.length : Int)).toNat (zI (wat S.1 j).1)) (4 * (ls.length : Int) + 1).toNat (zI a)) (4 * (ls.length : Int) + 2).toNat (zI b)) (4 * (ls.length : Int) + 3).toNat (zI (wat S.1 j).2.2.2))
  generalize hup h3 (m + 7) _ = h4 at *
  refine wb (gI_e k0 rfl) ?_
  rw [k2, zI_add]
  refine wb (pI_e2 (fs2 := mrow m (upd v 10 (zI (ls.length + 1)))) k0 (show 10 < 17 by omega) rfl) ?_
  refine wr ⟨⟨hup_same _ _ _, ⟨f, ARR_ne k1 (by omega), kq⟩, ?_, ⟨_, ARR_ne k3 (by omega), fun i hi => ?_⟩, ?_, ⟨d, (hup_ne _ _ (by omega)).trans k6, k7⟩⟩, OFC_up o4 (by omega)⟩
  · rw [upd_eq rfl, List.length_append, List.length_singleton]
    rfl
  · rw [List.length_append, List.length_singleton] at hi
    by_cases c : i = ls.length
    · rw [wat_last c]
      refine ⟨?_, ?_, ?_, ?_⟩
      · rw [upd_ne (by omega), upd_ne (by omega), upd_ne (by omega), upd_eq (by omega)]
      · rw [upd_ne (by omega), upd_ne (by omega), upd_eq (by omega)]
      · rw [upd_ne (by omega), upd_eq (by omega)]
      · rw [upd_eq (by omega)]
    · have hh := k4 i (by omega)
      rw [wat_app (by omega)]
      refine ⟨?_, ?_, ?_, ?_⟩
      · rw [upd_ne (by omega), upd_ne (by omega), upd_ne (by omega), upd_ne (by omega), hh.1]
      · rw [upd_ne (by omega), upd_ne (by omega), upd_ne (by omega), upd_ne (by omega), hh.2.1]
      · rw [upd_ne (by omega), upd_ne (by omega), upd_ne (by omega), upd_ne (by omega), hh.2.2.1]
      · rw [upd_ne (by omega), upd_ne (by omega), upd_ne (by omega), upd_ne (by omega), hh.2.2.2]
  · rw [List.length_append, List.length_singleton]
    omega
