def gkB (ws : List WR) (Y : List Int) (p q : Nat) (o : Bool) (i k : Nat) : Bool := !enB (wat ws i) && kpB ws Y p q o i k
theorem NUM_le {ws : List WR} (ho : ORD ws) {i j : Nat} (h : i ≤ j) (hj : j < ws.length) : (wat ws i).1 ≤ (wat ws j).1 := by
  by_cases c : i = j
  · rw [c]
    exact Int.le_refl _
  · exact ORD_N ho i j (by omega) hj
theorem gkB_cnt {ws : List WR} {Y : List Int} {p q : Nat} {o : Bool} (ho : ORD ws) (hq : q ≤ ws.length) (k : Nat) : ∀ (n j : Nat) (v : Int), j + n = q → v ≤ Y.length + 1 → (∀ i : Nat, j ≤ i → i < q → gkB ws Y p q o i k = true → v ≤ eB Y (wat ws i).1) → cnt (fun i => gkB ws Y p q o i k = true) j n ≤ Y.length + 1 - v := by
  intro n
  induction n with
  | zero =>
    intro j v hj hv h
    show (0 : Int) ≤ _
    omega
  | succ n ih =>
    intro j v hj hv h
    rw [cnt_succ]
    by_cases c : gkB ws Y p q o j k = true
    · rw [if_pos c]
      have h1 := h j (Nat.le_refl _) (by omega) c
      have h2 := eB_rng Y (wat ws j).1
      have h3 := ih (j + 1) (v + 1) (by omega) (by omega) (fun i h4 h5 h6 => by
        have h7 := eB_mono Y (NUM_le ho (i := j) (j := i) (by omega) (by omega))
        have h8 : eB Y (wat ws i).1 ≠ eB Y (wat ws j).1 := by
          intro he
          unfold gkB kpB k1B at c h6
          simp only [Bool.and_eq_true, Bool.not_eq_true'] at c h6
          have h9 : exB (hidB ws Y j k) (j + 1) (q - (j + 1)) = true := exB_iff.mpr ⟨i, by omega, by omega, by
            unfold hidB
            rw [h6.2.1.1, decide_eq_true he, h6.1]
            simp⟩
          rw [h9] at c
          exact absurd c.2.1.2 (by decide)
        omega)
      omega
    · rw [if_neg c]
      have h3 := ih (j + 1) v (by omega) hv (fun i h4 h5 h6 => h i (by omega) h5 h6)
      omega
theorem clF_len {ws : List WR} {Y : List Int} {p q : Nat} {o : Bool} (hw : WSOK ws) (he : ENT ws) : ∀ (n j : Nat), j + n ≤ ws.length → ((clF ws Y p q o j n).length : Int) ≤ cnt (fun i => enB (wat ws i) = true) j n + smf (fun i => cnt (fun k => gkB ws Y p q o i k = true) 0 100) j n := by
  intro n
  induction n with
  | zero => exact fun j _ => Int.le_refl _
  | succ n ih =>
    intro j hj
    have h1 := ih (j + 1) (by omega)
    rw [clF_succ, List.length_append, cnt_succ, smf_succ]
    have h0 := cnt_b (fun k => gkB ws Y p q o j k = true) 0 100
    by_cases c : enB (wat ws j) = true
    · rw [if_pos c]
      have h2 := rws_len1 (K := kpB ws Y p q o j) (WOK_at hw (j := j) (by omega)) (he _ (wat_mem (by omega)) (enB_iff.mp c))
      omega
    · rw [if_neg c]
      have h2 := rws_len (K := kpB ws Y p q o j) (WOK_at hw (j := j) (by omega))
      have h3 : cnt (fun k : Nat => kpB ws Y p q o j k = true) 0 100 = cnt (fun k => gkB ws Y p q o j k = true) 0 100 := cnt_c fun k _ _ => by
        unfold gkB
        rw [Bool.eq_false_iff.mpr c]
        rfl
      omega
theorem clL_len {ws : List WR} {Y : List Int} {p q : Nat} {o : Bool} (hw : WSOK ws) (he : ENT ws) (ho : ORD ws) (hp : p ≤ q) (hq : q ≤ ws.length) : ((clL ws Y p q o).length : Int) ≤ cnt (fun i => enB (wat ws i) = true) p (q - p) + 100 * (Y.length + 1) := by
  have h1 := clF_len (Y := Y) (p := p) (q := q) (o := o) hw he (q - p) p (by omega)
  rw [smf_swap (gkB ws Y p q o) 0 100 p (q - p)] at h1
  have h2 : smf (fun k => cnt (fun i => gkB ws Y p q o i k = true) p (q - p)) 0 100 ≤ (100 : Nat) * ((Y.length : Int) + 1) := smf_le fun k _ _ => by
    have := gkB_cnt (p := p) (o := o) (Y := Y) ho hq k (q - p) p 0 (by omega) (by omega) (fun i _ _ _ => (eB_rng Y _).1)
    omega
  unfold clL
  omega
theorem clL_len2 {ws : List WR} {Y : List Int} {p q : Nat} {o : Bool} (hw : WSOK ws) (he : ENT ws) (ho : ORD ws) (hp : p ≤ q) (hq : q ≤ ws.length) (h48 : ws.length ≤ 48) (hY : Y.length ≤ 2) : (clL ws Y p q o).length ≤ 348 := by
  have h1 := clL_len (Y := Y) (o := o) hw he ho hp hq
  have h2 := cnt_b (fun i => enB (wat ws i) = true) p (q - p)
  omega
def CLNX (h : HP) (c : Nat) (ws : List WR) (L : Nat → Nat → Bool) : Prop := ∃ G, h c = some (.inr (0, [.ref (c + 1), .ref (c + 6), .ref (c + 7), .ref (c + 8), .ref (c + 9)])) ∧ h (c + 6) = some (.inl (3, 148, .inr (.inr (.inr (.inr G))))) ∧ (∀ i : Nat, i < 148 → G i = some (c + 10 + i)) ∧ WRS h (c + 1) 348 ws ∧ ∀ i : Nat, i < 151 → KEYS h (c + 7 + i) (L i)
theorem CLNX_off {h h' : HP} {c a' n' : Nat} {ws : List WR} {L : Nat → Nat → Bool} (e : CLNX h c ws L) (k : OFF a' n' h h') (d : c + 158 ≤ a' ∨ a' + n' ≤ c) : CLNX h' c ws L := by
  obtain ⟨G, e0, e1, e2, e3, e4⟩ := e
  exact ⟨G, (k _ (by omega)).trans e0, (k _ (by omega)).trans e1, e2, WRS_off e3 k (by omega), fun i hi => KEYS_off (e4 i hi) k (by omega)⟩
def setL (L : Nat → Nat → Bool) (i : Nat) (K : Nat → Bool) : Nat → Nat → Bool := fun n => if n = i then K else L n
theorem setL_eq (L : Nat → Nat → Bool) (i : Nat) (K : Nat → Bool) : setL L i K i = K := if_pos rfl
theorem setL_ne (L : Nat → Nat → Bool) {i n : Nat} (K : Nat → Bool) (h : n ≠ i) : setL L i K n = L n := if_neg h
theorem CLNX_set {h h' : HP} {c : Nat} {ws : List WR} {L : Nat → Nat → Bool} (e : CLNX h c ws L) {i b : Nat} (hi : i < 151) (hb : b = c + 7 + i) {K : Nat → Bool} (g : KEYS h' b K) (k : OFF b 1 h h') : CLNX h' c ws (setL L i K) := by
  subst hb
  obtain ⟨G, e0, e1, e2, e3, e4⟩ := e
  refine ⟨G, (k _ (by omega)).trans e0, (k _ (by omega)).trans e1, e2, WRS_off e3 k (by omega), fun n hn => ?_⟩
  by_cases d : n = i
  · subst d
    rw [setL_eq]
    exact g
  · rw [setL_ne _ _ d]
    exact KEYS_off (e4 n hn) k (by omega)
theorem CLNX_res {h h' : HP} {c : Nat} {ws ws' : List WR} {L : Nat → Nat → Bool} (e : CLNX h c ws L) (g : WRS h' (c + 1) 348 ws') (k : OFF (c + 1) 5 h h') : CLNX h' c ws' L := by
  obtain ⟨G, e0, e1, e2, e3, e4⟩ := e
  exact ⟨G, (k _ (by omega)).trans e0, (k _ (by omega)).trans e1, e2, g, fun n hn => KEYS_off (e4 n hn) k (by omega)⟩
theorem CLNX_k {h : HP} {c : Nat} {ws : List WR} {L : Nat → Nat → Bool} (e : CLNX h c ws L) {i b : Nat} (hi : i < 151) (hb : b = c + 7 + i) : KEYS h b (L i) := by
  subst hb
  obtain ⟨G, e0, e1, e2, e3, e4⟩ := e
  exact e4 i hi
theorem CLNX_kO {h : HP} {c : Nat} {ws : List WR} {L : Nat → Nat → Bool} (e : CLNX h c ws L) : kO 0 h c = some () := by
  obtain ⟨G, e0, -⟩ := e
  exact kO_e e0
theorem CLNX_0 {h : HP} {c : Nat} {ws : List WR} {L : Nat → Nat → Bool} (e : CLNX h c ws L) : gR 0 0 h c = some (c + 1) ∧ gR 0 1 h c = some (c + 6) ∧ gR 0 2 h c = some (c + 7) ∧ gR 0 3 h c = some (c + 8) ∧ gR 0 4 h c = some (c + 9) := by
  obtain ⟨G, e0, -⟩ := e
  exact ⟨gR_e e0 rfl, gR_e e0 rfl, gR_e e0 rfl, gR_e e0 rfl, gR_e e0 rfl⟩
theorem CLNX_a {h : HP} {c : Nat} {ws : List WR} {L : Nat → Nat → Bool} (e : CLNX h c ws L) {j : Nat} (hj : j < 148) : aR 3 h (c + 6) (zI j) = some (c + 10 + j) := by
  obtain ⟨G, e0, e1, e2, -⟩ := e
  exact aR_e e1 (by omega) (e2 _ (by omega))
theorem CLNX_n {h : HP} {c : Nat} {ws : List WR} {L : Nat → Nat → Bool} (e : CLNX h c ws L) : aN h (c + 6) = some (zI 148) := by
  obtain ⟨G, e0, e1, -⟩ := e
  unfold aN
  rw [e1]
  simp only [show (3 : Nat) < 5 by omega, if_true]
  rfl
theorem STO_w {h : HP} {cl a cap : Nat} {S : SG} (e : STO h cl a cap S) : gR 3 1 h a = some (a + 3) ∧ WRS h (a + 3) cap S.1 ∧ kO 3 h a = some () ∧ gR 3 0 h a = some cl := by
  obtain ⟨fe, fy, e0, e1, e2, e3, r⟩ := e
  exact ⟨gR_e e0 rfl, e3, kO_e e0, gR_e e0 rfl⟩
theorem dH_159 {h : HP} {c a cap cl : Nat} {rs : List WR} {L : Nat → Nat → Bool} {S : SG} (e : CLNX h c rs L) (s : STO h cl a cap S) (hw : WSOK S.1) (hd : a + 8 ≤ c ∨ c + 158 ≤ a) {j : Nat} (hj : j < S.1.length) {k14 : HP → Nat → Int32 → Int32 → Option HP} {P : HP → Prop} {g : Int32} {v2 : Int32} (hk : ∀ h', CLNX h' c rs (setL L 0 (fun k => L 0 k || wcB (wat S.1 j) k)) → OFF c 158 h h' → WP (k14 h' (a + 3) g (zI ((j : Int) - 1))) P) : WP (b_X0_dropHidden_159 c a v2 k14 h (a + 3) g (zI j)) P := by
  have hL := WRS_len (STO_w s).2.1
  have hwj := WOK_at hw (j := j) (by omega)
  unfold WOK at hwj
  unfold b_X0_dropHidden_159
  refine wb (CLNX_0 e).2.2.1 ?_
  refine wb (X6_firstAt_is (STO_w s).2.1 (by omega)) ?_
  refine wb (X6_lastAt_is (STO_w s).2.1 (by omega)) ?_
  refine wpb (X2_addRow_is (CLNX_k e (i := 0) (by omega) rfl) (by omega)) ?_
  rintro h1 ⟨q1, q2⟩
  rw [zl1, zI_neg, zI_add]
  exact hk h1 (CLNX_set e (by omega) rfl q1 q2) (OFF_wide q2 (by omega))
theorem dH_63 {h : HP} {c a cap cl : Nat} {rs : List WR} {L : Nat → Nat → Bool} {S : SG} (e : CLNX h c rs L) (s : STO h cl a cap S) (hw : WSOK S.1) (hd : a + 8 ≤ c ∨ c + 158 ≤ a) {j : Nat} (hj : j < S.1.length) (hj2 : j < 148) {k14 : HP → Nat → Int32 → Int32 → Option HP} {P : HP → Prop} {g : Int32} {v2 : Int32} (hk : ∀ h' L', CLNX h' c rs L' → OFF c 158 h h' → (∀ k, L' (3 + j) k = (wcB (wat S.1 j) k && !(if enB (wat S.1 j) = true then L 0 k else L 1 k))) → (∀ k, L' 0 k = (L 0 k || wcB (wat S.1 j) k)) → (∀ k, L' 1 k = (L 1 k || (wcB (wat S.1 j) k && !enB (wat S.1 j)))) → (∀ i, i ≠ j → L' (3 + i) = L (3 + i)) → WP (k14 h' (a + 3) g (zI ((j : Int) - 1))) P) : WP (b_X0_dropHidden_63 c a v2 k14 h (a + 3) g (zI j)) P := by
  have hL := WRS_len (STO_w s).2.1
  have hwj := WOK_at hw (j := j) (by omega)
  unfold WOK at hwj
  unfold b_X0_dropHidden_63
  refine wb (CLNX_0 e).2.1 ?_
  refine wb (CLNX_a e hj2) ?_
  refine wpb (X2_empty_is (CLNX_k e (i := 3 + j) (by omega) (by omega))) ?_
  rintro h1 ⟨q1, q2⟩
  have e1 := CLNX_set e (i := 3 + j) (by omega) (by omega) q1 q2
  have s1 := STO_off s q2 (by omega)
  refine wb (CLNX_0 e1).2.1 ?_
  refine wb (CLNX_a e1 hj2) ?_
  refine wb (X6_firstAt_is (STO_w s1).2.1 (by omega)) ?_
  refine wb (X6_lastAt_is (STO_w s1).2.1 (by omega)) ?_
  refine wpb (X2_addRow_is q1 (by omega)) ?_
  rintro h2 ⟨q3, q4⟩
  have e2 := CLNX_set e1 (i := 3 + j) (by omega) (by omega) q3 q4
  have s2 := STO_off s1 q4 (by omega)
  have o2 : OFF c 158 h h2 := OFF_trans (OFF_wide q2 (by omega)) (OFF_wide q4 (by omega))
  refine wb (X6_isEntry_is (STO_w s2).2.1 (by omega) (WSOK_v hw)) ?_
  by_cases c1 : 0 < (wat S.1 j).2.2.2
  · have c2 : enB (wat S.1 j) = true := enB_iff.mpr c1
    rw [tB_1 c1]
    refine wf (by decide) ?_
    refine wb (CLNX_0 e2).2.1 ?_
    refine wb (CLNX_a e2 hj2) ?_
    refine wb (CLNX_0 e2).2.2.1 ?_
    refine wpb (X2_removeAll_is q3 (CLNX_k e2 (i := 0) (by omega) rfl) (by omega)) ?_
    rintro h3 ⟨q5, q6⟩
    have e3 := CLNX_set e2 (i := 3 + j) (by omega) (by omega) q5 q6
    have s3 := STO_off s2 q6 (by omega)
    refine dH_159 e3 s3 hw hd hj (fun h4 e4 o4 => ?_)
    refine hk h4 _ e4 (OFF_trans o2 (OFF_trans (OFF_wide q6 (by omega)) o4)) (fun k => ?_) (fun k => ?_) (fun k => ?_) (fun i hi => ?_)
    · rw [setL_ne _ _ (by omega), setL_eq, setL_ne _ _ (by omega), setL_ne _ _ (by omega), if_pos c2, Bool.false_or]
      rfl
    · rw [setL_eq, setL_ne _ _ (by omega), setL_ne _ _ (by omega), setL_ne _ _ (by omega)]
    · rw [setL_ne _ _ (by omega), setL_ne _ _ (by omega), setL_ne _ _ (by omega), setL_ne _ _ (by omega), c2]
      simp
    · rw [setL_ne _ _ (by omega), setL_ne _ _ (by omega), setL_ne _ _ (by omega), setL_ne _ _ (by omega)]
  · have c2 : ¬ enB (wat S.1 j) = true := fun d => c1 (enB_iff.mp d)
    rw [tB_0 c1]
    refine wt rfl ?_
    refine wb (CLNX_0 e2).2.1 ?_
    refine wb (CLNX_a e2 hj2) ?_
    refine wb (CLNX_0 e2).2.2.2.1 ?_
    refine wpb (X2_removeAll_is q3 (CLNX_k e2 (i := 1) (by omega) rfl) (by omega)) ?_
    rintro h3 ⟨q5, q6⟩
    have e3 := CLNX_set e2 (i := 3 + j) (by omega) (by omega) q5 q6
    have s3 := STO_off s2 q6 (by omega)
    refine wb (CLNX_0 e3).2.2.2.1 ?_
    refine wb (X6_firstAt_is (STO_w s3).2.1 (by omega)) ?_
    refine wb (X6_lastAt_is (STO_w s3).2.1 (by omega)) ?_
    refine wpb (X2_addRow_is (CLNX_k e3 (i := 1) (by omega) rfl) (by omega)) ?_
    rintro h4 ⟨q7, q8⟩
    have e4 := CLNX_set e3 (i := 1) (by omega) (by omega) q7 q8
    have s4 := STO_off s3 q8 (by omega)
    refine dH_159 e4 s4 hw hd hj (fun h5 e5 o5 => ?_)
    refine hk h5 _ e5 (OFF_trans o2 (OFF_trans (OFF_wide q6 (by omega)) (OFF_trans (OFF_wide q8 (by omega)) o5))) (fun k => ?_) (fun k => ?_) (fun k => ?_) (fun i hi => ?_)
    · rw [setL_ne _ _ (by omega), setL_ne _ _ (by omega), setL_eq, setL_ne _ _ (by omega), setL_ne _ _ (by omega), if_neg c2, Bool.false_or]
      rfl
    · rw [setL_eq, setL_ne _ _ (by omega), setL_ne _ _ (by omega), setL_ne _ _ (by omega), setL_ne _ _ (by omega)]
    · rw [setL_ne _ _ (by omega), setL_eq, setL_ne _ _ (by omega), setL_ne _ _ (by omega), setL_ne _ _ (by omega), Bool.eq_false_iff.mpr c2, Bool.not_false, Bool.and_true]
      rfl
    · rw [setL_ne _ _ (by omega), setL_ne _ _ (by omega), setL_ne _ _ (by omega), setL_ne _ _ (by omega), setL_ne _ _ (by omega)]
def gw (ws : List WR) (Y : List Int) (g k : Int) (i : Nat) : Bool := decide (eB Y (wat ws i).1 = g) && wcB (wat ws i) k
def gg (ws : List WR) (Y : List Int) (g k : Int) (i : Nat) : Bool := decide (eB Y (wat ws i).1 = g) && wcB (wat ws i) k && !enB (wat ws i)
theorem dH_loop {c a cap cl : Nat} {rs : List WR} {S : SG} (hw : WSOK S.1) (ho : ORD S.1) {M : Int} (hy : YOK S.2.2.1 M) (hM : M < 1000000) (hd : a + 8 ≤ c ∨ c + 158 ≤ a) {p q : Nat} (hq : q ≤ S.1.length) (hq2 : q ≤ 148) {h0 : HP} : ∀ (r n : Nat) (h : HP) (L : Nat → Nat → Bool) (g : Int), r < n → p + r ≤ q → CLNX h c rs L → STO h cl a cap S → OFF c 158 h0 h → (∀ i, p + r ≤ i → i < q → ∀ k : Nat, L (3 + i) k = k1B S.1 S.2.2.1 q i k) → ((g = -1 ∧ p + r = q) ∨ (p + r < q ∧ g = eB S.2.2.1 (wat S.1 (p + r : Nat)).1 ∧ ∀ k : Nat, L 0 k = exB (gw S.1 S.2.2.1 g k) (p + r) (q - (p + r)) ∧ L 1 k = exB (gg S.1 S.2.2.1 g k) (p + r) (q - (p + r)))) → WP (b_X0_dropHidden_14 c a (zI p) n h (a + 3) (zI g) (zI ((p + r : Nat) - 1))) (fun h' => (∃ L', CLNX h' c rs L' ∧ ∀ i, p ≤ i → i < q → ∀ k : Nat, L' (3 + i) k = k1B S.1 S.2.2.1 q i k) ∧ OFF c 158 h0 h') := by
  intro r
  induction r with
  | zero =>
    intro n h L g hn hp e s o hL hg
    obtain ⟨n, rfl⟩ : ∃ k, n = k + 1 := ⟨n - 1, by omega⟩
    unfold b_X0_dropHidden_14 c_X0_dropHidden_14
    refine wt ((zI_lt (by omega)).mpr (by omega)) ?_
    exact wr ⟨⟨L, e, fun i h1 h2 k => hL i (by omega) h2 k⟩, o⟩
  | succ r ih =>
    intro n h L g hn hp e s o hL hg
    obtain ⟨n, rfl⟩ : ∃ k, n = k + 1 := ⟨n - 1, by omega⟩
    have hlen := WRS_len (STO_w s).2.1
    have hjl : p + r < S.1.length := by omega
    have hwj := WOK_at hw (j := ((p + r : Nat) : Int)) (by omega)
    unfold WOK at hwj
    have hbe := eB_rng S.2.2.1 (wat S.1 (p + r : Nat)).1
    have hye : S.2.2.1.length ≤ 2 := by
      obtain ⟨fe, fy, e0, e1, e2, e3, r1, r2, c1, c2⟩ := s
      exact r2
    have hmono : ∀ i, p + r ≤ i → i < q → eB S.2.2.1 (wat S.1 (p + r : Nat)).1 ≤ eB S.2.2.1 (wat S.1 i).1 := fun i h1 h2 => eB_mono _ (NUM_le ho h1 (by omega))
    rw [show ((p + (r + 1) : Nat) : Int) - 1 = ((p + r : Nat) : Int) by omega]
    unfold b_X0_dropHidden_14 c_X0_dropHidden_14
    refine wf (fun d => absurd ((zI_lt (by omega)).mp d) (by omega)) ?_
    refine wb (X6_numberAt_is (STO_w s).2.1 (by omega)) ?_
    refine wb (X3_eyesBefore_is s hy hM (by omega)) ?_
    have fin : ∀ (h1 : HP) (L1 : Nat → Nat → Bool), CLNX h1 c rs L1 → STO h1 cl a cap S → OFF c 158 h0 h1 → (∀ i, p + (r + 1) ≤ i → i < q → ∀ k : Nat, L1 (3 + i) k = k1B S.1 S.2.2.1 q i k) → (∀ k : Nat, L1 0 k = exB (gw S.1 S.2.2.1 (eB S.2.2.1 (wat S.1 (p + r : Nat)).1) k) (p + (r + 1)) (q - (p + (r + 1))) ∧ L1 1 k = exB (gg S.1 S.2.2.1 (eB S.2.2.1 (wat S.1 (p + r : Nat)).1) k) (p + (r + 1)) (q - (p + (r + 1)))) → WP (b_X0_dropHidden_63 c a (zI p) (b_X0_dropHidden_14 c a (zI p) n) h1 (a + 3) (zI (eB S.2.2.1 (wat S.1 (p + r : Nat)).1)) (zI ((p + r : Nat) : Int))) (fun h' => (∃ L', CLNX h' c rs L' ∧ ∀ i, p ≤ i → i < q → ∀ k : Nat, L' (3 + i) k = k1B S.1 S.2.2.1 q i k) ∧ OFF c 158 h0 h') := by
      intro h1 L1 e1 s1 o1 hL1 hg1
      refine dH_63 e1 s1 hw hd hjl (by omega) (fun h2 L2 e2 o2 t1 t2 t3 t4 => ?_)
      refine ih n h2 L2 _ (by omega) (by omega) e2 (STO_off s1 o2 (by omega)) (OFF_trans o1 o2) (fun i h5 h6 k => ?_) (Or.inr ⟨by omega, rfl, fun k => ⟨?_, ?_⟩⟩)
      · by_cases d : i = p + r
        · subst d
          rw [t1 k]
          unfold k1B
          congr 2
          by_cases d2 : enB (wat S.1 (p + r : Nat)) = true
          · rw [if_pos d2, (hg1 k).1]
            refine exB_c fun i _ _ => ?_
            unfold gw hidB
            rw [d2, Bool.true_or, Bool.and_true]
          · rw [if_neg d2, (hg1 k).2]
            refine exB_c fun i _ _ => ?_
            unfold gg hidB
            rw [Bool.eq_false_iff.mpr d2, Bool.false_or]
        · rw [t4 i d]
          exact hL1 i (by omega) h6 k
      · rw [t2 k, (hg1 k).1, show q - (p + r) = (q - (p + (r + 1))) + 1 by omega, exB_succ, Bool.or_comm]
        congr 1
        unfold gw
        rw [decide_eq_true rfl, Bool.true_and]
      · rw [t3 k, (hg1 k).2, show q - (p + r) = (q - (p + (r + 1))) + 1 by omega, exB_succ, Bool.or_comm]
        congr 1
        unfold gg
        rw [decide_eq_true rfl, Bool.true_and]
    by_cases c1 : eB S.2.2.1 (wat S.1 (p + r : Nat)).1 = g
    · refine wt ((zI_inj (by omega)).mpr c1) ?_
      subst c1
      rcases hg with ⟨hg, -⟩ | ⟨hg1, hg2, hg3⟩
      · omega
      · exact fin h L e s o hL hg3
    · have hgb : -1 ≤ g ∧ g < 1000 := by
        rcases hg with ⟨hg, -⟩ | ⟨hg1, hg2, hg3⟩
        · omega
        · have := eB_rng S.2.2.1 (wat S.1 (p + (r + 1) : Nat)).1
          omega
      have hgt : ∀ i, p + (r + 1) ≤ i → i < q → eB S.2.2.1 (wat S.1 i).1 ≠ eB S.2.2.1 (wat S.1 (p + r : Nat)).1 := by
        intro i h1 h2
        rcases hg with ⟨-, hg⟩ | ⟨hg1, hg2, hg3⟩
        · omega
        · have h3 := hmono (p + (r + 1)) (by omega) hg1
          have h4 : eB S.2.2.1 (wat S.1 (p + (r + 1) : Nat)).1 ≤ eB S.2.2.1 (wat S.1 i).1 := eB_mono _ (NUM_le ho h1 (by omega))
          omega
      refine wf (fun d => c1 ((zI_inj (by omega)).mp d)) ?_
      refine wb (X6_numberAt_is (STO_w s).2.1 (by omega)) ?_
      refine wb (X3_eyesBefore_is s hy hM (by omega)) ?_
      refine wb (CLNX_0 e).2.2.1 ?_
      refine wpb (X2_empty_is (CLNX_k e (i := 0) (by omega) rfl)) ?_
      rintro h1 ⟨q1, q2⟩
      have e1 := CLNX_set e (i := 0) (by omega) rfl q1 q2
      have s1 := STO_off s q2 (by omega)
      refine wb (CLNX_0 e1).2.2.2.1 ?_
      refine wpb (X2_empty_is (CLNX_k e1 (i := 1) (by omega) rfl)) ?_
      rintro h2 ⟨q3, q4⟩
      have e2 := CLNX_set e1 (i := 1) (by omega) rfl q3 q4
      have s2 := STO_off s1 q4 (by omega)
      refine fin h2 _ e2 s2 (OFF_trans o (OFF_trans (OFF_wide q2 (by omega)) (OFF_wide q4 (by omega)))) (fun i h5 h6 k => ?_) (fun k => ⟨?_, ?_⟩)
      · rw [setL_ne _ _ (by omega), setL_ne _ _ (by omega)]
        exact hL i h5 h6 k
      · rw [setL_ne _ _ (by omega), setL_eq]
        refine (exB_0 fun i h5 h6 => ?_).symm
        unfold gw
        rw [decide_eq_false (hgt i (by omega) (by omega))]
        rfl
      · rw [setL_eq]
        refine (exB_0 fun i h5 h6 => ?_).symm
        unfold gg
        rw [decide_eq_false (hgt i (by omega) (by omega))]
        rfl
theorem X0_dropHidden_is {h : HP} {c a cap cl : Nat} {rs : List WR} {L : Nat → Nat → Bool} {S : SG} (e : CLNX h c rs L) (s : STO h cl a cap S) (hw : WSOK S.1) (ho : ORD S.1) {M : Int} (hy : YOK S.2.2.1 M) (hM : M < 1000000) (hd : a + 8 ≤ c ∨ c + 158 ≤ a) {p q : Nat} (hp : p ≤ q) (hq : q ≤ S.1.length) (hq2 : q ≤ 148) : WP (f_X0_dropHidden h c a (zI p) (zI q)) (fun h' => (∃ L', CLNX h' c rs L' ∧ ∀ i, p ≤ i → i < q → ∀ k : Nat, L' (3 + i) k = k1B S.1 S.2.2.1 q i k) ∧ OFF c 158 h h') := by
  unfold f_X0_dropHidden b_X0_dropHidden_0
  refine wb (CLNX_kO e) ?_
  refine wb (STO_w s).1 ?_
  rw [zl1, zI_neg, zI_sub]
  have := dH_loop (p := p) (q := q) (cap := cap) (cl := cl) (rs := rs) hw ho hy hM hd hq hq2 (h0 := h) (q - p) FU h L (-1) (by unfold FU; omega) (by omega) e s (OFF_refl _ _ _) (fun i h1 h2 => by omega) (Or.inl ⟨rfl, by omega⟩)
  rw [show p + (q - p) = q by omega] at this
  exact this
theorem dN_loop {c wa : Nat} {rs ws : List WR} (hw : WSOK ws) (Y : List Int) (hd : wa + 5 ≤ c ∨ c + 158 ≤ wa) {cap : Nat} {p q : Nat} (hq : q ≤ ws.length) (hq2 : q ≤ 148) {h0 : HP} : ∀ (r n : Nat) (h : HP) (L : Nat → Nat → Bool) (j : Nat), r < n → j + r = q → p ≤ j → CLNX h c rs L → WRS h wa cap ws → OFF c 158 h0 h → (∀ i, p ≤ i → i < j → ∀ k : Nat, L (3 + i) k = kpB ws Y p q true i k) → (∀ i, j ≤ i → i < q → ∀ k : Nat, L (3 + i) k = k1B ws Y q i k) → (∀ k : Nat, L 2 k = exB (fun i => enB (wat ws i) && k1B ws Y q i k) p (j - p)) → WP (b_X0_dropNeedless_10 c wa (zI q) n h (zI j)) (fun h' => (∃ L', CLNX h' c rs L' ∧ ∀ i, p ≤ i → i < q → ∀ k : Nat, L' (3 + i) k = kpB ws Y p q true i k) ∧ OFF c 158 h0 h') := by
  intro r
  induction r with
  | zero =>
    intro n h L j hn hj hp e s o h1 h2 h3
    obtain ⟨n, rfl⟩ : ∃ k, n = k + 1 := ⟨n - 1, by omega⟩
    have hlen := WRS_len s
    unfold b_X0_dropNeedless_10 c_X0_dropNeedless_10
    refine wt ((zI_le (by omega)).mpr (by omega)) ?_
    exact wr ⟨⟨L, e, fun i h5 h6 k => h1 i h5 (by omega) k⟩, o⟩
  | succ r ih =>
    intro n h L j hn hj hp e s o h1 h2 h3
    obtain ⟨n, rfl⟩ : ∃ k, n = k + 1 := ⟨n - 1, by omega⟩
    have hlen := WRS_len s
    unfold b_X0_dropNeedless_10 c_X0_dropNeedless_10
    refine wf (fun d => absurd ((zI_le (by omega)).mp d) (by omega)) ?_
    refine wb (X6_isEntry_is s (by omega) (WSOK_v hw)) ?_
    have hkp : ∀ k : Nat, kpB ws Y p q true j k = (k1B ws Y q j k && (enB (wat ws j) || L 2 k)) := fun k => by
      unfold kpB
      rw [h3 k]
      simp
    by_cases c1 : 0 < (wat ws j).2.2.2
    · have c2 : enB (wat ws j) = true := enB_iff.mpr c1
      rw [tB_1 c1]
      refine wf (by decide) ?_
      refine wb (CLNX_0 e).2.2.2.2 ?_
      refine wb (CLNX_0 e).2.1 ?_
      refine wb (CLNX_a e (by omega)) ?_
      refine wpb (X2_addAll_is (CLNX_k e (i := 2) (by omega) rfl) (CLNX_k e (i := 3 + j) (by omega) (by omega)) (by omega)) ?_
      rintro h4 ⟨q5, q6⟩
      have e4 := CLNX_set e (i := 2) (by omega) rfl q5 q6
      have h9 := ih n h4 _ (j + 1) (by omega) (by omega) (by omega) e4 (WRS_off s q6 (by omega)) (OFF_trans o (OFF_wide q6 (by omega))) (fun i h5 h6 k => by
        rw [setL_ne _ _ (by omega)]
        by_cases d : i = j
        · subst d
          rw [h2 i (by omega) (by omega) k, hkp k, c2, Bool.true_or, Bool.and_true]
        · exact h1 i h5 (by omega) k) (fun i h5 h6 k => by
        rw [setL_ne _ _ (by omega)]
        exact h2 i (by omega) h6 k) (fun k => by
        rw [setL_eq, show j + 1 - p = (j - p) + 1 by omega, exB_last, show p + (j - p) = j by omega, ← h3 k, c2, Bool.true_and, h2 j (by omega) (by omega) k])
      rw [cast1] at h9
      rw [zl1, zI_add]
      exact h9
    · have c2 : ¬ enB (wat ws j) = true := fun d => c1 (enB_iff.mp d)
      rw [tB_0 c1]
      refine wt rfl ?_
      refine wb (CLNX_0 e).2.1 ?_
      refine wb (CLNX_a e (by omega)) ?_
      refine wb (CLNX_0 e).2.2.2.2 ?_
      refine wpb (X2_keepOnly_is (CLNX_k e (i := 3 + j) (by omega) (by omega)) (CLNX_k e (i := 2) (by omega) rfl) (by omega)) ?_
      rintro h4 ⟨q5, q6⟩
      have e4 := CLNX_set e (i := 3 + j) (by omega) (by omega) q5 q6
      have h9 := ih n h4 _ (j + 1) (by omega) (by omega) (by omega) e4 (WRS_off s q6 (by omega)) (OFF_trans o (OFF_wide q6 (by omega))) (fun i h5 h6 k => by
        by_cases d : i = j
        · subst d
          rw [setL_eq, h2 i (by omega) (by omega) k, hkp k, Bool.eq_false_iff.mpr c2, Bool.false_or]
        · rw [setL_ne _ _ (by omega)]
          exact h1 i h5 (by omega) k) (fun i h5 h6 k => by
        rw [setL_ne _ _ (by omega)]
        exact h2 i (by omega) h6 k) (fun k => by
        rw [setL_ne _ _ (by omega), show j + 1 - p = (j - p) + 1 by omega, exB_last, show p + (j - p) = j by omega, ← h3 k, Bool.eq_false_iff.mpr c2, Bool.false_and, Bool.or_false])
      rw [cast1] at h9
      rw [zl1, zI_add]
      exact h9
theorem X0_dropNeedless_is {h : HP} {c wa cap : Nat} {rs ws : List WR} {L : Nat → Nat → Bool} (e : CLNX h c rs L) (s : WRS h wa cap ws) (hw : WSOK ws) (Y : List Int) (hd : wa + 5 ≤ c ∨ c + 158 ≤ wa) {p q : Nat} (hp : p ≤ q) (hq : q ≤ ws.length) (hq2 : q ≤ 148) (h2 : ∀ i, p ≤ i → i < q → ∀ k : Nat, L (3 + i) k = k1B ws Y q i k) : WP (f_X0_dropNeedless h c wa (zI p) (zI q)) (fun h' => (∃ L', CLNX h' c rs L' ∧ ∀ i, p ≤ i → i < q → ∀ k : Nat, L' (3 + i) k = kpB ws Y p q true i k) ∧ OFF c 158 h h') := by
  unfold f_X0_dropNeedless b_X0_dropNeedless_0
  refine wb (CLNX_kO e) ?_
  refine wb (CLNX_0 e).2.2.2.2 ?_
  refine wpb (X2_empty_is (CLNX_k e (i := 2) (by omega) rfl)) ?_
  rintro h4 ⟨q5, q6⟩
  have e4 := CLNX_set e (i := 2) (by omega) rfl q5 q6
  exact dN_loop hw Y hd hq hq2 (h0 := h) (q - p) FU h4 _ p (by unfold FU; omega) (by omega) (Nat.le_refl _) e4 (WRS_off s q6 (by omega)) (OFF_wide q6 (by omega)) (fun i _ _ => by omega) (fun i h5 h6 k => by
    rw [setL_ne _ _ (by omega)]
    exact h2 i h5 h6 k) (fun k => by
    rw [setL_eq, Nat.sub_self]
    rfl)
theorem aR_loop {c wa cap : Nat} {ws : List WR} {L : Nat → Nat → Bool} (hw : WSOK ws) (hd : wa + 5 ≤ c ∨ c + 158 ≤ wa) {j : Nat} (hj : j < ws.length) (hj2 : j < 148) {K : Int → Bool} (hK : ∀ k : Nat, L (3 + j) k = K k) {h0 : HP} {v0 : Int32} (hv0 : v0 = zI (wat ws j).2.2.1) : ∀ (m n : Nat) (h : HP) (rs : List WR) (st k : Nat), m < n → (k : Int) + m = (wat ws j).2.2.1 + 1 → st ≤ k → CLNX h c rs L → WRS h wa cap ws → OFF c 158 h0 h → ∀ f : Int, (f = if m = 0 then -1 else if K k = true then (if st = k then -1 else (st : Int)) else -1) → rs.length + (rowsF (wat ws j) K f k m).length ≤ 348 → WP (b_X0_addRows_25 c wa (zI j) n h (c + 10 + j) v0 (zI st) (zI k)) (fun h' => CLNX h' c (rs ++ rowsF (wat ws j) K f k m) L ∧ OFF c 158 h0 h') := by
  have hwj := WOK_at hw (j := j) (by omega)
  unfold WOK at hwj
  subst hv0
  intro m
  induction m with
  | zero =>
    intro n h rs st k hn hk hst e s o f hf hb
    obtain ⟨n, rfl⟩ : ∃ k, n = k + 1 := ⟨n - 1, by omega⟩
    rw [if_pos rfl] at hf
    subst hf
    unfold b_X0_addRows_25 c_X0_addRows_25
    refine wt ((zI_lt (by omega)).mpr (by omega)) ?_
    rw [rowsF_0, if_pos rfl, List.append_nil]
    exact wr ⟨e, o⟩
  | succ m ih =>
    intro n h rs st k hn hk hst e s o f hf hb
    obtain ⟨n, rfl⟩ : ∃ k, n = k + 1 := ⟨n - 1, by omega⟩
    rw [if_neg (by omega)] at hf
    have hlen := WRS_len s
    have hcast : ((k : Int) + 1) = ((k + 1 : Nat) : Int) := by omega
    unfold b_X0_addRows_25 c_X0_addRows_25
    simp only [zl1, zI_add, hcast]
    refine wf (fun d => absurd ((zI_lt (by omega)).mp d) (by omega)) ?_
    refine wb (X2_has_is (CLNX_k e (i := 3 + j) (by omega) (by omega)) (by omega)) ?_
    rw [hK k]
    by_cases c1 : K k = true
    · rw [if_pos c1] at hf
      rw [tB_1 c1]
      refine wf (by decide) ?_
      have emit : ∀ (tl : List WR) (f' : Int), rowsF (wat ws j) K f k (m + 1) = ((wat ws j).1, (st : Int), (k : Int), (wat ws j).2.2.2) :: tl → tl = rowsF (wat ws j) K f' ((k + 1 : Nat) : Int) m → (f' = if m = 0 then -1 else if K ((k + 1 : Nat) : Int) = true then (if st = k + 1 then -1 else (st : Int)) else -1) → WP (b_X0_addRows_68 c wa (zI j) (b_X0_addRows_25 c wa (zI j) n) h (c + 10 + j) (zI (wat ws j).2.2.1) (zI st) (zI k)) (fun h' => CLNX h' c (rs ++ rowsF (wat ws j) K f k (m + 1)) L ∧ OFF c 158 h0 h') := by
        intro tl f' h1 h2 h3
        rw [h1] at hb ⊢
        rw [List.length_cons] at hb
        unfold b_X0_addRows_68
        simp only [zl1, zI_add, hcast]
        refine wb (CLNX_0 e).1 ?_
        refine wb (X6_numberAt_is s (by omega)) ?_
        refine wb (X6_valueAt_is s (by omega)) ?_
        have hwr : WRS h (c + 1) 348 rs := by
          obtain ⟨G, e0, e1, e2, e3, e4⟩ := e
          exact e3
        refine wpb (X6_add_is hwr _ _ _ _ (by omega)) ?_
        rintro h4 ⟨q5, q6⟩
        have h9 := ih n h4 _ st (k + 1) (by omega) (by omega) (by omega) (CLNX_res e q5 q6) (WRS_off s q6 (by omega)) (OFF_trans o (OFF_wide q6 (by omega))) f' h3 (by
          rw [← h2, List.length_append, List.length_singleton]
          omega)
        rw [← h2] at h9
        rw [List.append_assoc] at h9
        exact h9
      by_cases c2 : m = 0
      · refine wt ((zI_inj (by omega)).mpr (by omega)) ?_
        subst c2
        refine emit [] (-1) ?_ (by rw [rowsF_0, if_pos rfl]) (by rw [if_pos rfl])
        rw [rowsF_succ, if_pos c1]
        by_cases c3 : st = k
        · subst c3
          rw [if_pos rfl] at hf
          rw [if_pos hf, rowsF_0, if_neg (by omega), Int.add_sub_cancel]
        · rw [if_neg c3] at hf
          rw [if_neg (by omega), rowsF_0, if_neg (by omega), Int.add_sub_cancel, hf]
      · refine wf (fun d => absurd ((zI_inj (by omega)).mp d) (by omega)) ?_
        refine wb (X2_has_is (CLNX_k e (i := 3 + j) (by omega) (by omega)) (by omega)) ?_
        rw [hK (k + 1)]
        obtain ⟨m, rfl⟩ : ∃ k, m = k + 1 := ⟨m - 1, by omega⟩
        by_cases c3 : K ((k + 1 : Nat) : Int) = true
        · rw [tB_1 c3]
          refine wf (by decide) ?_
          have h8 : rowsF (wat ws j) K f k (m + 1 + 1) = rowsF (wat ws j) K (st : Int) ((k + 1 : Nat) : Int) (m + 1) := by
            rw [rowsF_succ, if_pos c1]
            by_cases c4 : st = k
            · subst c4
              rw [if_pos rfl] at hf
              rw [if_pos hf, hcast]
            · rw [if_neg c4] at hf
              rw [if_neg (by omega), hcast, hf]
          rw [h8] at hb ⊢
          exact ih n h rs st (k + 1) (by omega) (by omega) (by omega) e s o (st : Int) (by rw [if_neg (by omega), if_pos c3, if_neg (by omega)]) hb
        · rw [tB_0 c3]
          refine wt rfl ?_
          refine emit (rowsF (wat ws j) K (-1) ((k + 1 : Nat) : Int) (m + 1)) (-1) ?_ rfl (by rw [if_neg (by omega), if_neg c3])
          have h8 : rowsF (wat ws j) K f k (m + 1 + 1) = rowsF (wat ws j) K (st : Int) ((k + 1 : Nat) : Int) (m + 1) := by
            rw [rowsF_succ, if_pos c1]
            by_cases c4 : st = k
            · subst c4
              rw [if_pos rfl] at hf
              rw [if_pos hf, hcast]
            · rw [if_neg c4] at hf
              rw [if_neg (by omega), hcast, hf]
          rw [h8, rowsF_succ, if_neg c3, if_neg (by omega), rowsF_succ, if_neg c3, if_pos rfl, ← hcast, Int.add_sub_cancel]
    · rw [if_neg c1] at hf
      subst hf
      rw [tB_0 c1]
      refine wt rfl ?_
      rw [rowsF_succ, if_neg c1, if_pos rfl, hcast] at hb ⊢
      exact ih n h rs (k + 1) (k + 1) (by omega) (by omega) (by omega) e s o (-1) (by
        by_cases c4 : m = 0
        · rw [if_pos c4]
        · rw [if_neg c4, if_pos rfl]
          split <;> rfl) hb
