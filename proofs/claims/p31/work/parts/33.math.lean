theorem X5_seenIn_is {h : HP} {v : Nat} {f : Nat → Int} (e : VIEW h v f) (hf : ∀ k : Nat, k < 100 → 0 ≤ f k ∧ f k < 1000) {s t : Int} (hs : 0 ≤ s ∧ s ≤ t) (ht : t < 100) : f_X5_seenIn h v (zI s) (zI t) = some (zI (cnt (fun k => f k ≠ 0) s.toNat (t + 1 - s).toNat)) := by
  have h1 := seenIn_loop e hf (t := t) (by omega) (t + 1 - s).toNat FU 0 s.toNat (by unfold FU; omega) (by omega)
  obtain ⟨F, e0, e1, e2⟩ := e
  unfold f_X5_seenIn b_X5_seenIn_0
  rw [Int.zero_add] at h1
  rw [kO_e e0, Option.bind_some, zl0, zI_jmax (by omega), show max s 0 = ((s.toNat : Nat) : Int) by omega]
  exact h1
theorem firstSeen_loop {h : HP} {v : Nat} {f : Nat → Int} (e : VIEW h v f) (hf : ∀ k : Nat, k < 100 → 0 ≤ f k ∧ f k < 1000) : ∀ (m n : Nat) (j : Nat), m < n → j + m = 100 → b_X5_firstSeen_6 h v n (zI j) = some (zI (fst1 (fun k => f k ≠ 0) j m)) := by
  obtain ⟨F, e0, e1, e2⟩ := e
  intro m
  induction m with
  | zero =>
    intro n j hn hj
    obtain ⟨n, rfl⟩ : ∃ k, n = k + 1 := ⟨n - 1, by omega⟩
    unfold b_X5_firstSeen_6 c_X5_firstSeen_6
    rw [show (100 : Int32) = zI 100 by decide, if_pos ((zI_le (by omega)).mpr (by omega))]
    rfl
  | succ m ih =>
    intro n j hn hj
    obtain ⟨n, rfl⟩ : ∃ k, n = k + 1 := ⟨n - 1, by omega⟩
    unfold b_X5_firstSeen_6 c_X5_firstSeen_6
    have hb := hf j (by omega)
    rw [show (100 : Int32) = zI 100 by decide, if_neg (fun d => absurd ((zI_le (by omega)).mp d) (by omega)), gR_e e0 rfl, Option.bind_some, aI_e e1 (by omega), Option.bind_some, Int.toNat_natCast, e2 j (by omega)]
    simp only [zl0, zl1, zI_add]
    unfold fst1
    by_cases c : f j = 0
    · rw [if_pos ((zI_inj (by omega)).mpr c), if_neg (by omega)]
      have := ih n (j + 1) (by omega) (by omega)
      rw [show (((j + 1 : Nat)) : Int) = (j : Int) + 1 by omega] at this
      rw [this]
    · rw [if_neg (fun d => c ((zI_inj (by omega)).mp d)), if_pos c]
theorem X5_firstSeen_is {h : HP} {v : Nat} {f : Nat → Int} (e : VIEW h v f) (hf : ∀ k : Nat, k < 100 → 0 ≤ f k ∧ f k < 1000) {s : Int} (hs : 0 ≤ s ∧ s < 100) : f_X5_firstSeen h v (zI s) = some (zI (fst1 (fun k => f k ≠ 0) s.toNat (100 - s.toNat))) := by
  have h1 := firstSeen_loop e hf (100 - s.toNat) FU s.toNat (by unfold FU; omega) (by omega)
  obtain ⟨F, e0, e1, e2⟩ := e
  unfold f_X5_firstSeen b_X5_firstSeen_0
  rw [kO_e e0, Option.bind_some, zl0, zI_jmax (by omega), show max s 0 = ((s.toNat : Nat) : Int) by omega]
  exact h1
theorem nfI_rng (ws : List WR) (k m : Int) : -1 ≤ nfI ws k m ∧ nfI ws k m < ws.length := nfD_rng ws k m ws.length
theorem isSeen_loop {h : HP} {cl a cap : Nat} {S : SG} (e : STO h cl a cap S) (hw : WSOK S.1) {M : Int} (hy : YOK S.2.2.1 M) (hl : 0 ≤ S.2.2.2.1 ∧ S.2.2.2.1 ≤ M) (hM : M < 1000000) {j k : Int} (hj : -1000000 < j ∧ j < 1000000) (hk : -1000000 < k ∧ k < 1000000) : ∀ (m n : Nat) (i : Nat), m < n → i + m = S.2.2.1.length + 1 → b_X3_isSeen_11 h a (zI j) n (zI k) (zI ((i : Int) - 1)) = some (tB (∃ q : Nat, q < m ∧ nfI S.1 k (lim S ((i : Int) + q - 1)) = j)) := by
  have hlim : ∀ x : Int, -1000000 < lim S x ∧ lim S x < 1000000 := fun x => by
    unfold lim
    split
    · rename_i c
      have := hy _ (iat_mem c)
      omega
    · omega
  have hL : S.1.length < 1000 ∧ S.2.2.1.length ≤ 2 := by
    obtain ⟨fe, fy, e0, e1, e2, e3, r1, r2, c1, c2⟩ := e
    have := WRS_len e3
    omega
  intro m
  induction m with
  | zero =>
    intro n i hn hi
    obtain ⟨n, rfl⟩ : ∃ k, n = k + 1 := ⟨n - 1, by omega⟩
    have h1 := X3_eyes_is e
    obtain ⟨fe, fy, e0, e1, e2, e3, r1, r2, c1, c2⟩ := e
    unfold b_X3_isSeen_11 c_X3_isSeen_11
    rw [gI_e e0 rfl, Option.bind_some, if_pos ((zI_le (by omega)).mpr (by omega)), tB_0 (fun ⟨q, hq, _⟩ => absurd hq (Nat.not_lt_zero _))]
  | succ m ih =>
    intro n i hn hi
    obtain ⟨n, rfl⟩ : ∃ k, n = k + 1 := ⟨n - 1, by omega⟩
    have h1 := X3_limitOf_is e (i := (i : Int) - 1) (by omega)
    have h2 := X3_newestFor_is e hw hk (hlim ((i : Int) - 1))
    have h3 := ih n (i + 1) (by omega) (by omega)
    have h4 := nfI_rng S.1 k (lim S ((i : Int) - 1))
    rw [show (((i + 1 : Nat)) : Int) = (i : Int) + 1 by omega] at h3
    obtain ⟨fe, fy, e0, e1, e2, e3, r1, r2, c1, c2⟩ := e
    unfold b_X3_isSeen_11 c_X3_isSeen_11
    rw [gI_e e0 rfl, Option.bind_some, if_neg (fun d => absurd ((zI_le (by omega)).mp d) (by omega)), h1, Option.bind_some, h2, Option.bind_some]
    by_cases c : nfI S.1 k (lim S ((i : Int) - 1)) = j
    · rw [if_pos ((zI_inj (by omega)).mpr c), tB_1]
      exact ⟨0, by omega, by rw [show (i : Int) + ((0 : Nat) : Int) - 1 = (i : Int) - 1 by omega]; exact c⟩
    · rw [if_neg (fun d => c ((zI_inj (by omega)).mp d)), zl1, zI_add, show (i : Int) - 1 + 1 = (i : Int) + 1 - 1 by omega, h3]
      refine congrArg some (tB_c ⟨?_, ?_⟩)
      · rintro ⟨q, hq, hh⟩
        refine ⟨q + 1, by omega, ?_⟩
        rw [show (i : Int) + ((q + 1 : Nat) : Int) - 1 = (i : Int) + 1 + q - 1 by omega]
        exact hh
      · rintro ⟨q, hq, hh⟩
        obtain ⟨q, rfl⟩ | rfl : (∃ p, q = p + 1) ∨ q = 0 := by
          cases q with
          | zero => exact Or.inr rfl
          | succ p => exact Or.inl ⟨p, rfl⟩
        · refine ⟨q, by omega, ?_⟩
          rw [show (i : Int) + ((q + 1 : Nat) : Int) - 1 = (i : Int) + 1 + q - 1 by omega] at hh
          exact hh
        · rw [show (i : Int) + ((0 : Nat) : Int) - 1 = (i : Int) - 1 by omega] at hh
          exact absurd hh c
def ORD (ws : List WR) : Prop := ∀ i j : Nat, i < j → j < ws.length → (wat ws i).1 < (wat ws j).1 ∨ ((wat ws i).1 = (wat ws j).1 ∧ (wat ws i).2.2.1 < (wat ws j).2.1)
theorem ORD_N {ws : List WR} (H : ORD ws) : NSRT ws := fun i j h1 h2 => by
  have := H i j h1 h2
  omega
theorem nfD_some {ws : List WR} {k m : Int} : ∀ {n : Nat}, nfD ws k m n ≠ -1 → (wat ws (nfD ws k m n)).1 ≤ m ∧ (wat ws (nfD ws k m n)).2.1 ≤ k ∧ k ≤ (wat ws (nfD ws k m n)).2.2.1 := by
  intro n
  induction n with
  | zero => exact fun h => absurd rfl h
  | succ n ih =>
    rw [nfD_succ]
    by_cases c : (wat ws n).1 ≤ m ∧ (wat ws n).2.1 ≤ k ∧ k ≤ (wat ws n).2.2.1
    · rw [if_pos c]
      exact fun _ => c
    · rw [if_neg c]
      exact ih
def vw (S : SG) (k x : Int) : Int := (wat S.1 (nfI S.1 k (lim S x))).2.2.2
theorem lim_rng {S : SG} {M : Int} (hy : YOK S.2.2.1 M) (hl : 0 ≤ S.2.2.2.1 ∧ S.2.2.2.1 ≤ M) (x : Int) : 0 ≤ lim S x ∧ lim S x ≤ M := by
  unfold lim
  split
  · rename_i c
    exact hy _ (iat_mem c)
  · exact hl
theorem wat_v {ws : List WR} (hw : WSOK ws) (j : Int) : 0 ≤ (wat ws j).2.2.2 ∧ (wat ws j).2.2.2 < 1000 := by
  by_cases c : 0 ≤ j ∧ j < ws.length
  · exact (WOK_at hw c).2.2
  · rw [wat_out (by omega)]
    decide
theorem cnt_succ (P : Nat → Prop) [DecidablePred P] (p n : Nat) : cnt P p (n + 1) = (if P p then 1 else 0) + cnt P (p + 1) n := rfl
theorem fst1_succ (P : Nat → Prop) [DecidablePred P] (p n : Nat) : fst1 P p (n + 1) = if P p then (p : Int) else fst1 P (p + 1) n := rfl
theorem cast1 (j : Nat) : (((j + 1 : Nat)) : Int) = (j : Int) + 1 := by omega
theorem aI_v {h : HP} {a n : Nat} {f : Nat → Int32} {z : Int} {x : Int32} (e : ARR h a n f) (hz : 0 ≤ z ∧ z < n ∧ (n : Int) < 2147483648) (hv : f z.toNat = x) : aI h a (zI z) = some x := by
  rw [aI_e e hz, hv]
theorem upd_ne {f : Nat → Int32} {k j : Nat} {x : Int32} (h : j ≠ k) : upd f k x j = f j := by
  unfold upd
  rw [if_neg h]
theorem upd_eq {f : Nat → Int32} {k j : Nat} {x : Int32} (h : j = k) : upd f k x j = x := by
  unfold upd
  rw [if_pos h]
theorem eOf_m1 (S : SG) : eOf S (-1) = S.1.length := by
  unfold eOf
  rw [if_neg (by omega)]
theorem wat_app {ws : List WR} {w : WR} {j : Nat} (h : j < ws.length) : wat (ws ++ [w]) j = wat ws j := by
  rw [wat_get (by rw [List.length_append]; omega), wat_get h, List.getElem_append_left h]
theorem wat_last {ws : List WR} {w : WR} {j : Nat} (h : j = ws.length) : wat (ws ++ [w]) j = w := by
  subst h
  rw [wat_get (by rw [List.length_append, List.length_singleton]; omega), List.getElem_append_right (Nat.le_refl _)]
  simp
theorem iat_app {l : List Int} {w : Int} {j : Nat} (h : j < l.length) : iat (l ++ [w]) j = iat l j := by
  rw [iat_get (by rw [List.length_append]; omega), iat_get h, List.getElem_append_left h]
theorem iat_last {l : List Int} {w : Int} {j : Nat} (h : j = l.length) : iat (l ++ [w]) j = w := by
  subst h
  rw [iat_get (by rw [List.length_append, List.length_singleton]; omega), List.getElem_append_right (Nat.le_refl _)]
  simp
def push (l : List SG) (S : SG) : List SG := (if l.length = 14 then l.tail else l) ++ [S]
theorem dropEye_end {h : HP} {cl a : Nat} {r l f : Int32} {y b : Int} (n : Nat) (e0 : h a = some (.inr (3, [.ref cl, .ref (a + 3), .ref (a + 1), .ref (a + 2), .int r, .int (zI y), .int l, .int f]))) (hy : 0 ≤ y ∧ y ≤ b ∧ b < 1000) : b_X3_dropEye_13 a (n + 1) h (zI b) = some (hup h a (.inr (3, [.ref cl, .ref (a + 3), .ref (a + 1), .ref (a + 2), .int r, .int (zI (y - 1)), .int l, .int f]))) := by
  unfold b_X3_dropEye_13 c_X3_dropEye_13
  rw [gI_e e0 rfl, Option.bind_some, if_pos ((zI_le (by omega)).mpr (by omega)), Option.bind_some, zl1, zI_sub, pI_e2 (fs2 := [.ref cl, .ref (a + 3), .ref (a + 1), .ref (a + 2), .int r, .int (zI (y - 1)), .int l, .int f]) e0 (show 5 < 8 by omega) rfl]
  rfl
theorem X3_dropEye_is {h : HP} {cl a cap : Nat} {S : SG} (e : STO h cl a cap S) {i : Int} (hi : 0 ≤ i ∧ i < S.2.2.1.length) : WP (f_X3_dropEye h a (zI i)) (fun h' => STO h' cl a cap (S.1, S.2.1, S.2.2.1.eraseIdx i.toNat, S.2.2.2.1, S.2.2.2.2) ∧ OFF a 8 h h') := by
  have h1 := X3_isEye_is e (i := i) (by have : S.2.2.1.length ≤ 2 := by (obtain ⟨fe, fy, e0, e1, e2, e3, r1, r2, c1, c2⟩ := e; exact r2)
                                        omega)
  obtain ⟨fe, fy, e0, e1, e2, e3, r1, r2, c1, c2⟩ := e
  have hF : FU = 4094 + 1 + 1 := rfl
  unfold f_X3_dropEye b_X3_dropEye_0
  refine wb (kO_e e0) ?_
  refine wb h1 ?_
  rw [tB_1 hi]
  refine wf (by decide) ?_
  rw [zl1, zI_add, hF]
  obtain ⟨ws, es, ys, lat, few⟩ := S
  dsimp only at *
  by_cases c : (ys.length : Int) ≤ i + 1
  · refine weq (dropEye_end _ e0 (by omega)) ?_
    refine ⟨⟨fe, fy, (hup_same _ _ _).trans ?_, ARR_ne e1 (by omega), ARR_ne e2 (by omega), WRS_off e3 (OFF_up (OFF_refl a 1 h) (by omega)) (by omega), r1, ?_, c1, fun j hj => ?_⟩, OFF_up (OFF_refl _ _ _) (by omega)⟩
    · dsimp only
      rw [List.length_eraseIdx_of_lt (by omega), show ((ys.length - 1 : Nat) : Int) = (ys.length : Int) - 1 by omega]
    · dsimp only
      rw [List.length_eraseIdx_of_lt (by omega)]
      omega
    · dsimp only at hj ⊢
      rw [List.length_eraseIdx_of_lt (by omega)] at hj
      rw [c2 j (by omega), iat_get (by omega), iat_get (by rw [List.length_eraseIdx_of_lt (by omega)]; omega), List.getElem_eraseIdx, dif_pos (by omega)]
  · have hy : ys.length = 2 ∧ i = 0 := by omega
    obtain ⟨y2, rfl⟩ := hy
    have h5 := CLU_at c2 (j := 1) (by omega)
    unfold b_X3_dropEye_13 c_X3_dropEye_13
    rw [zl1]
    simp only [zI_add, zI_sub]
    refine wb (gI_e e0 rfl) ?_
    refine wf (fun d => absurd ((zI_le (by omega)).mp d) (by omega)) ?_
    refine wb (gR_e e0 rfl) ?_
    refine wb (gR_e e0 rfl) ?_
    refine wb (aI_v e2 (by omega) h5) ?_
    refine wb (wI_e e2 (by omega)) ?_
    have e0' := (hup_ne h (e := .inl (0, 2, .inl (upd fy ((0 : Int) + 1 - 1).toNat (zI (iat ys 1))))) (show a ≠ a + 2 by omega)).trans e0
    refine weq (dropEye_end _ e0' (by omega)) ?_
    refine ⟨⟨fe, _, (hup_same _ _ _).trans ?_, ARR_ne (ARR_ne e1 (by omega)) (by omega), ARR_ne (ARR_eq _ _ _ _) (by omega), WRS_off e3 (OFF_up (OFF_up (OFF_refl a 3 h) (by omega)) (by omega)) (by omega), r1, ?_, c1, fun j hj => ?_⟩, OFF_up (OFF_up (OFF_refl _ _ _) (by omega)) (by omega)⟩
    · dsimp only
      rw [List.length_eraseIdx_of_lt (by omega), show ((ys.length - 1 : Nat) : Int) = (ys.length : Int) - 1 by omega]
    · dsimp only
      rw [List.length_eraseIdx_of_lt (by omega)]
      omega
    · dsimp only at hj ⊢
      rw [List.length_eraseIdx_of_lt (by omega)] at hj
      rw [upd_eq (by omega), iat_get (by rw [List.length_eraseIdx_of_lt (by omega)]; omega), List.getElem_eraseIdx, dif_neg (by omega), show (1 : Int) = ((j + 1 : Nat) : Int) by omega, iat_get (by omega)]
theorem X3_isSeen_is {h : HP} {cl a cap : Nat} {S : SG} (e : STO h cl a cap S) (hw : WSOK S.1) {M : Int} (hy : YOK S.2.2.1 M) (hl : 0 ≤ S.2.2.2.1 ∧ S.2.2.2.1 ≤ M) (hM : M < 1000000) {j : Nat} (hj : j < S.1.length) : f_X3_isSeen h a (zI j) = some (tB (∃ q : Nat, q < S.2.2.1.length + 1 ∧ nfI S.1 (wat S.1 j).2.1 (lim S ((q : Int) - 1)) = j)) := by
  have hL : S.1.length < 1000 ∧ S.2.2.1.length ≤ 2 := by
    obtain ⟨fe, fy, e0, e1, e2, e3, r1, r2, c1, c2⟩ := e
    have := WRS_len e3
    omega
  have hwj := WOK_at hw (j := j) (by omega)
  unfold WOK at hwj
  have h1 := isSeen_loop e hw hy hl hM (j := j) (k := (wat S.1 j).2.1) (by omega) (by omega) (S.2.2.1.length + 1) FU 0 (by unfold FU; omega) (by omega)
  obtain ⟨fe, fy, e0, e1, e2, e3, r1, r2, c1, c2⟩ := e
  unfold f_X3_isSeen b_X3_isSeen_0
  rw [kO_e e0, Option.bind_some, gR_e e0 rfl, Option.bind_some, X6_firstAt_is e3 (by omega), Option.bind_some, zl1, zI_neg]
  refine h1.trans (congrArg some (tB_c ⟨?_, ?_⟩))
  · rintro ⟨q, h5, h6⟩
    refine ⟨q, h5, ?_⟩
    rw [show ((0 : Nat) : Int) + (q : Int) - 1 = (q : Int) - 1 by omega] at h6
    exact h6
  · rintro ⟨q, h5, h6⟩
    refine ⟨q, h5, ?_⟩
    rw [show ((0 : Nat) : Int) + (q : Int) - 1 = (q : Int) - 1 by omega]
    exact h6
theorem zI_jrem {a b : Nat} (ha : a < 2147483648) (hb : 0 < b ∧ b < 2147483648) : jrem (zI a) (zI b) = zI (a % b : Nat) := by
  unfold jrem
  rw [← zI_nat, ← zI_nat, ← zI_nat]
  exact pk_rem (by omega) hb.1 (by omega)
theorem aR_e {kd : Nat} {h : HP} {a n : Nat} {f : Nat → Option Nat} {z : Int} {x : Nat} (e : h a = some (.inl (kd, n, .inr (.inr (.inr (.inr f)))))) (hz : 0 ≤ z ∧ z < n ∧ (n : Int) < 2147483648) (hv : f z.toNat = some x) : aR kd h a (zI z) = some x := by
  have h1 := zI_in hz
  unfold aR
  rw [e]
  simp only [if_true]
  rw [if_neg h1, zI_clamp (by omega), hv]
def HISC (h : HP) (cl q : Nat) (l : List SG) : Prop := ∃ (o : Nat) (G : Nat → Option Nat), h q = some (.inr (1, [.ref (q + 1), .int (zI o), .int (zI l.length)])) ∧ h (q + 1) = some (.inl (4, 14, .inr (.inr (.inr (.inr G))))) ∧ (∀ i : Nat, i < 14 → G i = some (q + 2 + 8 * i)) ∧ o < 14 ∧ l.length ≤ 14 ∧ (∀ i : Nat, i < 14 → ∃ S, STO h cl (q + 2 + 8 * i) 48 S) ∧ ∀ i : Nat, ∀ hi : i < l.length, STO h cl (q + 2 + 8 * ((o + i) % 14)) 48 l[i]
theorem X1_size_is {h : HP} {cl q : Nat} {l : List SG} (e : HISC h cl q l) : f_X1_size h q = some (zI l.length) := by
  obtain ⟨o, G, e0, -⟩ := e
  unfold f_X1_size b_X1_size_0
  rw [kO_e e0, Option.bind_some, gI_e e0 rfl]
  rfl
theorem rem32 {h : HP} {cl q st cap dl : Nat} {T : SG} {l : List SG} (e : HISC h cl q l) (hl : l.length < 14) (k : STO h dl st cap T) (hT : T.1.length ≤ 48) (hd : st + 8 ≤ q ∨ q + 114 ≤ st) : WP (b_X1_remember_32 q st h) (fun h' => HISC h' cl q (l ++ [T]) ∧ OFF q 114 h h') := by
  obtain ⟨o, G, e0, e1, e2, e3, e4, e5, e6⟩ := e
  unfold b_X1_remember_32
  rw [show (14 : Int32) = zI (14 : Nat) by decide, zl1]
  refine wb (gR_e e0 rfl) ?_
  refine wb (gI_e e0 rfl) ?_
  refine wb (gI_e e0 rfl) ?_
  rw [zI_add, show (o : Int) + (l.length : Int) = ((o + l.length : Nat) : Int) by omega, zI_jrem (by omega) (by omega)]
  refine wb (aR_e e1 (by omega) (e2 _ (by omega))) ?_
  rw [Int.toNat_natCast]
  obtain ⟨S0, hS0⟩ := e5 ((o + l.length) % 14) (by omega)
  refine wpb (X3_become_is hS0 k (by omega) hT) ?_
  rintro h1 ⟨s1, g1⟩
  have e0' := (g1 q (by omega)).trans e0
  have e1' := (g1 (q + 1) (by omega)).trans e1
  refine wb (gI_e e0' rfl) ?_
  rw [zI_add]
  refine wb (pI_e2 (fs2 := [.ref (q + 1), .int (zI o), .int (zI (l.length + 1))]) e0' (show 2 < 3 by omega) rfl) ?_
  have go : OFF q 1 h1 (hup h1 q (.inr (1, [.ref (q + 1), .int (zI o), .int (zI (l.length + 1))]))) := OFF_up (OFF_refl _ _ _) (by omega)
  have hla : (l ++ [T]).length = l.length + 1 := by
    rw [List.length_append, List.length_singleton]
  refine wr ⟨⟨o, G, (hup_same _ _ _).trans ?_, (hup_ne _ _ (by omega)).trans e1', e2, e3, by omega, fun i hi => ?_, fun i hi => ?_⟩, OFF_up (OFF_wide g1 (by omega)) (by omega)⟩
  · rw [hla]
    rfl
  · by_cases c : i = (o + l.length) % 14
    · subst c
      exact ⟨T, STO_off s1 go (by omega)⟩
    · obtain ⟨S, hS⟩ := e5 i hi
      exact ⟨S, STO_off (STO_off hS g1 (by omega)) go (by omega)⟩
  · rw [hla] at hi
    by_cases c : i = l.length
    · subst c
      rw [List.getElem_append_right (Nat.le_refl _)]
      simp only [List.getElem_singleton]
      exact STO_off s1 go (by omega)
    · rw [List.getElem_append_left (by omega)]
      exact STO_off (STO_off (e6 i (by omega)) g1 (by omega)) go (by omega)
theorem X1_remember_is {h : HP} {cl q st cap dl : Nat} {T : SG} {l : List SG} (e : HISC h cl q l) (k : STO h dl st cap T) (hT : T.1.length ≤ 48) (hd : st + 8 ≤ q ∨ q + 114 ≤ st) : WP (f_X1_remember h q st) (fun h' => HISC h' cl q (push l T) ∧ OFF q 114 h h') := by
  have hl : l.length ≤ 14 := by
    obtain ⟨o, G, e0, e1, e2, e3, e4, r⟩ := e
    exact e4
  unfold f_X1_remember b_X1_remember_0 push
  by_cases c : l.length = 14
  · obtain ⟨o, G, e0, e1, e2, e3, e4, e5, e6⟩ := e
    rw [show (14 : Int32) = zI (14 : Nat) by decide, zl1, if_pos c]
    refine wb (kO_e e0) ?_
    refine wb (gI_e e0 rfl) ?_
    refine wt ((zI_inj (by omega)).mpr (by omega)) ?_
    refine wb (gI_e e0 rfl) ?_
    rw [zI_add, show (o : Int) + 1 = ((o + 1 : Nat) : Int) by omega, zI_jrem (by omega) (by omega)]
    refine wb (pI_e2 (fs2 := [.ref (q + 1), .int (zI ((o + 1) % 14 : Nat)), .int (zI l.length)]) e0 (show 1 < 3 by omega) rfl) ?_
    refine wb (gI_e (hup_same _ _ _) rfl) ?_
    rw [zI_sub]
    refine wb (pI_e2 (fs2 := [.ref (q + 1), .int (zI ((o + 1) % 14 : Nat)), .int (zI ((l.length : Int) - 1))]) (hup_same _ _ _) (show 2 < 3 by omega) rfl) ?_
    rw [hup_hup]
    have go : OFF q 1 h (hup h q (.inr (1, [.ref (q + 1), .int (zI ((o + 1) % 14 : Nat)), .int (zI ((l.length : Int) - 1))]))) := OFF_up (OFF_refl _ _ _) (by omega)
    have hlt : l.tail.length = l.length - 1 := List.length_tail
    have e' : HISC (hup h q (.inr (1, [.ref (q + 1), .int (zI ((o + 1) % 14 : Nat)), .int (zI ((l.length : Int) - 1))]))) cl q l.tail := by
      refine ⟨(o + 1) % 14, G, (hup_same _ _ _).trans ?_, (hup_ne _ _ (by omega)).trans e1, e2, by omega, by omega, fun i hi => ?_, fun i hi => ?_⟩
      · rw [hlt, show ((l.length - 1 : Nat) : Int) = (l.length : Int) - 1 by omega]
      · obtain ⟨S, hS⟩ := e5 i hi
        exact ⟨S, STO_off hS go (by omega)⟩
      · rw [List.getElem_tail]
        have := STO_off (e6 (i + 1) (by omega)) go (by omega)
        rw [show ((o + 1) % 14 + i) % 14 = (o + (i + 1)) % 14 by omega]
        exact this
    refine wm (rem32 e' (by omega) (STO_off k go (by omega)) hT hd) ?_
    rintro h' ⟨r1, r2⟩
    exact ⟨r1, OFF_trans (OFF_wide go (by omega)) r2⟩
  · have hw := rem32 e (by omega) k hT hd
    obtain ⟨o, G, e0, e1, e2, e3, e4, e5, e6⟩ := e
    rw [if_neg c]
    refine wb (kO_e e0) ?_
    refine wb (gI_e e0 rfl) ?_
    rw [show (14 : Int32) = zI 14 by decide]
    refine wf (fun d => c (by have := (zI_inj (by omega)).mp d; omega)) ?_
    exact hw
theorem X1_takeBack_is {h : HP} {cl q st cap dl : Nat} {S : SG} {l : List SG} (e : HISC h cl q l) (hl : 0 < l.length) (k : STO h dl st cap S) (hT : l[l.length - 1].1.length ≤ cap) (hd : st + 8 ≤ q ∨ q + 114 ≤ st) : WP (f_X1_takeBack h q st) (fun h' => HISC h' cl q l.dropLast ∧ STO h' dl st cap l[l.length - 1] ∧ ∀ b, b ≠ q → (b < st ∨ st + 8 ≤ b) → h' b = h b) := by
  obtain ⟨o, G, e0, e1, e2, e3, e4, e5, e6⟩ := e
  unfold f_X1_takeBack b_X1_takeBack_0
  rw [show (14 : Int32) = zI (14 : Nat) by decide, zl1, zl0]
  refine wb (kO_e e0) ?_
  refine wb (gI_e e0 rfl) ?_
  refine wf (fun d => absurd ((zI_le (by omega)).mp d) (by omega)) ?_
  refine wb (gI_e e0 rfl) ?_
  rw [zI_sub]
  refine wb (pI_e2 (fs2 := [.ref (q + 1), .int (zI o), .int (zI ((l.length : Int) - 1))]) e0 (show 2 < 3 by omega) rfl) ?_
  have go : OFF q 1 h (hup h q (.inr (1, [.ref (q + 1), .int (zI o), .int (zI ((l.length : Int) - 1))]))) := OFF_up (OFF_refl _ _ _) (by omega)
  have e0' := hup_same h q (.inr (1, [.ref (q + 1), .int (zI o), .int (zI ((l.length : Int) - 1))]))
  have e1' := (go (q + 1) (by omega)).trans e1
  have k' := STO_off k go (by omega)
  have e5' : ∀ i : Nat, i < 14 → ∃ S, STO (hup h q (.inr (1, [.ref (q + 1), .int (zI o), .int (zI ((l.length : Int) - 1))]))) cl (q + 2 + 8 * i) 48 S := fun i hi => by
    obtain ⟨S, hS⟩ := e5 i hi
    exact ⟨S, STO_off hS go (by omega)⟩
  have e6' : ∀ i : Nat, ∀ hi : i < l.length, STO (hup h q (.inr (1, [.ref (q + 1), .int (zI o), .int (zI ((l.length : Int) - 1))]))) cl (q + 2 + 8 * ((o + i) % 14)) 48 l[i] := fun i hi => STO_off (e6 i hi) go (by omega)
  generalize hup h q _ = h1 at *
  refine wb (gR_e e0' rfl) ?_
  refine wb (gI_e e0' rfl) ?_
  refine wb (gI_e e0' rfl) ?_
  rw [zI_add, show (o : Int) + ((l.length : Int) - 1) = ((o + (l.length - 1) : Nat) : Int) by omega, zI_jrem (by omega) (by omega)]
  refine wb (aR_e e1' (by omega) (e2 _ (by omega))) ?_
  rw [Int.toNat_natCast]
  refine wpb (X3_become_is k' (e6' (l.length - 1) (by omega)) (by omega) hT) ?_
  rintro h2 ⟨s1, g1⟩
  have hld : l.dropLast.length = l.length - 1 := List.length_dropLast
  refine wr ⟨⟨o, G, ((g1 q (by omega)).trans e0').trans ?_, (g1 (q + 1) (by omega)).trans e1', e2, e3, by omega, fun i hi => ?_, fun i hi => ?_⟩, s1, fun b hb1 hb2 => (g1 b hb2).trans (go b (by omega))⟩
  · rw [hld, show ((l.length - 1 : Nat) : Int) = (l.length : Int) - 1 by omega]
  · obtain ⟨S, hS⟩ := e5' i hi
    exact ⟨S, STO_off hS g1 (by omega)⟩
  · rw [List.getElem_dropLast]
    exact STO_off (e6' i (by omega)) g1 (by omega)
def TXT (h : HP) (t : Nat) (l : List Int) : Prop := ∃ f, h t = some (.inr (4, [.ref (t + 1), .int (zI l.length)])) ∧ ARR h (t + 1) 120 f ∧ CLU f l ∧ l.length ≤ 120 ∧ ∀ c ∈ l, 0 ≤ c ∧ c ≤ 255
theorem TXT_off {h h' : HP} {t a' n' : Nat} {l : List Int} (e : TXT h t l) (k : OFF a' n' h h') (d : t + 2 ≤ a' ∨ a' + n' ≤ t) : TXT h' t l := by
  obtain ⟨f, e0, e1, r⟩ := e
  exact ⟨f, (k _ (by omega)).trans e0, (k _ (by omega)).trans e1, r⟩
def putF (S : SG) (k v : Int) : Int := if ¬ (0 ≤ k ∧ k ≤ 99) then 1 else if ¬ (1 ≤ v ∧ v ≤ 999) then 2 else if S.1.length = 48 then 3 else 0
def buryF (S : SG) (p q : Int) : Int := if ¬ (0 ≤ p ∧ p ≤ 99) ∨ ¬ (0 ≤ q ∧ q ≤ 99) then 1 else if q < p then 2 else if S.1.length = 48 then 3 else 0
def wadd (S : SG) (p q v : Int) : SG := (S.1 ++ [(S.2.2.2.1 + 1, p, q, v)], S.2.1, S.2.2.1, S.2.2.2.1 + 1, S.2.2.2.2)
def cPut (S : SG) (k v : Int) : Option SG := if putF S k v = 0 then some (wadd S k k v) else none
def cBury (S : SG) (p q : Int) : Option SG := if buryF S p q = 0 then some (wadd S p q 0) else none
def cOpen (S : SG) : Option SG := if S.2.2.1.length < 2 then some (S.1, S.2.1, S.2.2.1 ++ [S.2.2.2.1], S.2.2.2.1, S.2.2.2.2) else none
def cClose (S : SG) (e : Int) : Option SG := if 0 ≤ e ∧ e < S.2.2.1.length then some (S.1, S.2.1, S.2.2.1.eraseIdx e.toNat, S.2.2.2.1, S.2.2.2.2) else none
theorem X7_isKey_is (h : HP) {x : Int} (hx : -2147483648 ≤ x ∧ x < 2147483648) : f_X7_isKey h (zI x) = some (tB (0 ≤ x ∧ x ≤ 99)) := by
  unfold f_X7_isKey b_X7_isKey_0
  rw [zl0, show (100 : Int32) = zI 100 by decide]
  by_cases c1 : x < 0
  · rw [if_pos ((zI_lt (by omega)).mpr c1), tB_0 (by omega)]
    rfl
  · rw [if_neg (fun d => c1 ((zI_lt (by omega)).mp d))]
    by_cases c2 : 100 ≤ x
    · rw [if_pos ((zI_le (by omega)).mpr c2), tB_0 (by omega)]
      rfl
    · rw [if_neg (fun d => c2 ((zI_le (by omega)).mp d)), tB_1 (by omega)]
theorem X7_isValue_is (h : HP) {x : Int} (hx : -2147483648 ≤ x ∧ x < 2147483648) : f_X7_isValue h (zI x) = some (tB (1 ≤ x ∧ x ≤ 999)) := by
  unfold f_X7_isValue b_X7_isValue_0
  rw [show (if zI x < 1 then some (0 : Int32) else if 999 < zI x then some 0 else some 1) = (if zI x < zI 1 then some (0 : Int32) else if zI 999 < zI x then some 0 else some 1) from rfl]
  by_cases c1 : x < 1
  · rw [if_pos ((zI_lt (by omega)).mpr c1), tB_0 (by omega)]
  · rw [if_neg (fun d => c1 ((zI_lt (by omega)).mp d))]
    by_cases c2 : 999 < x
    · rw [if_pos ((zI_lt (by omega)).mpr c2), tB_0 (by omega)]
    · rw [if_neg (fun d => c2 ((zI_lt (by omega)).mp d)), tB_1 (by omega)]
def kbit (lo hi : Int64) (k : Nat) : Bool := if k < 64 then lo.toBitVec.getLsbD k else hi.toBitVec.getLsbD (k - 64)
def KEYS (h : HP) (a : Nat) (K : Nat → Bool) : Prop := ∃ lo hi, h a = some (kCell lo hi) ∧ ∀ k : Nat, k < 128 → kbit lo hi k = K k
theorem KEYS_off {h h' : HP} {a a' n' : Nat} {K : Nat → Bool} (e : KEYS h a K) (k : OFF a' n' h h') (d : a < a' ∨ a' + n' ≤ a) : KEYS h' a K := by
  obtain ⟨lo, hi, e0, e1⟩ := e
  exact ⟨lo, hi, (k _ (by omega)).trans e0, e1⟩
theorem shl_tab : ∀ f k : Fin 64, (jlshl (-1) (Int32.ofNat f.val)).toBitVec.getLsbD k.val = decide (f.val ≤ k.val) := by decide +kernel
theorem shr_tab : ∀ s k : Fin 64, (jlushr (-1) (Int32.ofNat s.val)).toBitVec.getLsbD k.val = decide (k.val + s.val < 64) := by decide +kernel
theorem sha_tab : ∀ s : Fin 64, ((Int32.ofNat s.val).toInt64.toUInt64 &&& Int64.toUInt64 63).toNat = s.val := by decide +kernel
theorem jlushr_nat (x : Int64) {s : Nat} (hs : s < 64) : (jlushr x (zI s)).toBitVec.toNat = x.toBitVec.toNat / 2 ^ s := by
  have h1 := sha_tab ⟨s, hs⟩
  dsimp only at h1
  unfold jlushr
  rw [← zln]
  show (x.toUInt64 >>> ((Int32.ofNat s).toInt64.toUInt64 &&& Int64.toUInt64 63)).toNat = _
  rw [UInt64.toNat_shiftRight, h1, Nat.shiftRight_eq_div_pow, Nat.mod_eq_of_lt hs]
  rfl
theorem jlushr_bit (x : Int64) {s k : Nat} (hs : s < 64) : (jlushr x (zI s)).toBitVec.getLsbD k = x.toBitVec.getLsbD (k + s) := by
  show (jlushr x (zI s)).toBitVec.toNat.testBit k = x.toBitVec.toNat.testBit (k + s)
  rw [jlushr_nat x hs, Nat.testBit_div_two_pow]
theorem row_bit {f s k : Nat} (hf : f < 64) (hs : s < 64) (hk : k < 64) : (jlshl (-1) (zI f) &&& jlushr (-1) (zI s)).toBitVec.getLsbD k = decide (f ≤ k ∧ k + s < 64) := by
  have h1 := shl_tab ⟨f, hf⟩ ⟨k, hk⟩
  have h2 := shr_tab ⟨s, hs⟩ ⟨k, hk⟩
  dsimp only at h1 h2
  rw [Int64.toBitVec_and, BitVec.getLsbD_and, ← zln, ← zln, h1, h2, Bool.decide_and]
theorem kLo_bit (lo : Int64) {f l k : Nat} (hf : f ≤ l) (hl : l < 100) (hk : k < 64) : (kLo lo (zI f) (zI l)).toBitVec.getLsbD k = (lo.toBitVec.getLsbD k || decide (f ≤ k ∧ k ≤ l)) := by
  unfold kLo
  simp only [show (64 : Int32) = zI 64 by decide, show (63 : Int32) = zI 63 by decide]
  by_cases c : 64 ≤ f
  · rw [if_pos ((zI_le (by omega)).mpr (by omega)), decide_eq_false (by omega), Bool.or_false]
  · rw [if_neg (fun d => c (by have := (zI_le (by omega)).mp d; omega)), zI_jmin (by omega), zI_sub, show (63 : Int) - min (l : Int) 63 = ((63 - min l 63 : Nat) : Int) by omega, Int64.toBitVec_or, BitVec.getLsbD_or, row_bit (by omega) (by omega) hk]
    congr 1
    exact decide_eq_decide.mpr (by omega)
