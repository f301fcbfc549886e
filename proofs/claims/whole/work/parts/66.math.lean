/-! the reference merges -/
theorem X8_mergeFault_is {h : HP} {m : Nat} {v : Nat → Int32} {S : SG} (e : REF h m S) (e0 : MOB h m v) (al : ALO h m) {M : Int} (H : SOK S M) {i : Int} (hi : -2147483648 ≤ i ∧ i < 2147483648) : WP (f_X8_mergeFault h m (zI i)) (FLT m v S h (mgF S i) (mgK S i)) := by
  have hb := REF_b e
  have hE := H.2.2.2.2.2.2
  obtain ⟨f, -, k1, ⟨b, u0, u1, u2, u3, u4, u5, u6, u7⟩⟩ := REF_MOB e e0
  unfold f_X8_mergeFault b_X8_mergeFault_0
  simp only [show (2 : Int32) = zI 2 by decide, zl0, zl1, zI_add]
  refine wb hb.2 ?_
  refine wb (X8_isRun_is e hi) ?_
  by_cases c1 : 0 ≤ i ∧ i < S.2.1.length
  · rw [tB_1 c1]
    refine wf (by decide) ?_
    refine wb (gR_e e0 rfl) ?_
    refine wb (aI_v k1 (z := 0) (by omega) u0) ?_
    rw [zI_sub]
    by_cases c2 : i = S.2.1.length - 1
    · refine wt ((zI_inj (by omega)).mpr c2) ?_
      have hF : mgF S i = 2 := by
        unfold mgF
        rw [if_neg (by omega), if_pos c2]
      exact FLT_no e e0 al (by omega) (by rw [hF])
    · refine wf (fun d => c2 ((zI_inj (by omega)).mp d)) ?_
      obtain ⟨p1, p2, p3, p4, p5, p6, p7⟩ := mg_pre hE (i := i) (by omega)
      have hlen := clP_len H (by omega) (by omega) (nw := i) (ol := i + 1) (by omega)
      have hu := u1 i.toNat (by omega)
      rw [show ((i.toNat : Nat) : Int) = i by omega] at hu
      refine wb (X8_begin_is e (r := i + 1) (by omega)) ?_
      refine wb (X8_begin_is e (r := i) (by omega)) ?_
      refine wb (gR_e e0 rfl) ?_
      refine wb (aI_v k1 (z := 1 + i) (x := zI (eOf S i - sOf S i)) (by omega) (by rw [show (1 + i).toNat = 1 + i.toNat by omega]; exact hu)) ?_
      refine wb (gR_e e0 rfl) ?_
      refine wb (aI_v k1 (z := 0) (by omega) u0) ?_
      simp only [zI_sub, zI_add]
      rw [show sOf S i + (eOf S i - sOf S i) = eOf S i by omega]
      have key : ∀ o : Bool, o = decide (i + 1 = S.2.1.length - 1) → WP (b_X8_mergeFault_67 m h (zI (sOf S (i + 1))) (zI (eOf S i)) m (zI (sOf S (i + 1))) (zI (eOf S i)) (tB (o = true))) (FLT m v S h (mgF S i) (mgK S i)) := by
        intro o ho
        unfold b_X8_mergeFault_67
        have hlen' : (clL S.1 S.2.2.1 (sOf S (i + 1)).toNat (eOf S i).toNat o).length ≤ 348 := by
          rw [ho]
          exact hlen
        have hc := X8_clean_is e e0 al H.1 H.2.1 H.2.2.1 (SOK_Y H) H.2.2.2.2.2.1.2.2 (p := (sOf S (i + 1)).toNat) (q := (eOf S i).toNat) (o := o) (by omega) (by omega) (by omega)
        rw [show (((sOf S (i + 1)).toNat : Nat) : Int) = sOf S (i + 1) by omega, show (((eOf S i).toNat : Nat) : Int) = eOf S i by omega] at hc
        have hK : clL S.1 S.2.2.1 (sOf S (i + 1)).toNat (eOf S i).toNat o = mgK S i := by
          rw [ho]
          rfl
        rw [hK] at hc
        refine wpb hc ?_
        rintro h1 ⟨⟨D, q1⟩, q2⟩
        refine wb (X8_isRoomFor_is q1 (by omega) (by omega)) ?_
        have hF : mgF S i = if S.1.length + (mgK S i).length - (eOf S i - sOf S (i + 1)) ≤ 48 then 0 else 2 := by
          unfold mgF
          rw [if_neg (by omega), if_neg c2]
        by_cases c3 : S.1.length + (mgK S i).length - (eOf S i - sOf S (i + 1)) ≤ 48
        · rw [if_pos c3] at hF
          rw [tB_1 (by omega)]
          refine wf (by decide) ?_
          refine wr ⟨by rw [hF]; rfl, ⟨_, q1.1, fun _ => ⟨D, q1⟩⟩, CLR_R q1, CLR_A q1, q2⟩
        · rw [if_neg c3] at hF
          rw [tB_0 (by omega)]
          refine wt rfl ?_
          refine wr ⟨by rw [hF]; rfl, ⟨_, q1.1, fun _ => ⟨D, q1⟩⟩, CLR_R q1, CLR_A q1, q2⟩
      by_cases c3 : i = S.2.1.length - 2
      · refine wt ((zI_inj (by omega)).mpr c3) ?_
        have := key true (decide_eq_true (by omega)).symm
        rw [tB_1 (p := true = true) rfl] at this
        exact this
      · refine wf (fun d => c3 ((zI_inj (by omega)).mp d)) ?_
        have := key false (decide_eq_false (by omega)).symm
        rw [tB_0 (p := false = true) (by decide)] at this
        exact this
  · rw [tB_0 c1]
    refine wt rfl ?_
    have hF : mgF S i = 1 := by
      unfold mgF
      rw [if_pos c1]
    exact FLT_no e e0 al (by omega) (by rw [hF])
theorem merges_65 {m : Nat} {v : Nat → Int32} {r g k0 : Nat} (hr : r ≤ 5) (hg : 1 ≤ g ∧ g ≤ 2) (hk0 : k0 + g ≤ r) {L : Int} (hv : v 10 = zI L) {F0 : Nat → Int32} {h0 : HP} (hF0 : F0 0 = zI r) : ∀ (d n : Nat) (h : HP) (F : Nat → Int32) (k : Nat), d < n → k + g + d = r → k0 ≤ k → MOB h m v → ARR h (m + 1) 204 F → OFF (m + 1) 1 h0 h → (∀ x : Nat, F x = if 1 + k0 ≤ x ∧ x < 1 + k then F0 (x + g) else F0 x) → WP (b_X8_merges_65 m n h (zI g) (zI k)) (fun r' => r'.1 = zI L ∧ (∃ F', ARR r'.2 (m + 1) 204 F' ∧ ∀ x : Nat, F' x = if x = 0 then zI ((r : Int) - g) else if 1 + k0 ≤ x ∧ x + g < 1 + r then F0 (x + g) else F0 x) ∧ OFF (m + 1) 1 h0 r'.2) := by
  intro d
  induction d with
  | zero =>
    intro n h F k hn hk hkk e0 e1 o hF
    obtain ⟨n, rfl⟩ : ∃ k, n = k + 1 := ⟨n - 1, by omega⟩
    have hz : F 0 = zI r := by
      rw [hF, if_neg (by omega), hF0]
    unfold b_X8_merges_65 c_X8_merges_65
    simp only [zl0, zl1, zI_add]
    refine wb (gR_e e0 rfl) ?_
    refine wb (aI_v e1 (z := 0) (by omega) hz) ?_
    refine wt ((zI_le (by omega)).mpr (by omega)) ?_
    refine wb (gR_e e0 rfl) ?_
    refine wb (aI_v e1 (z := 0) (by omega) hz) ?_
    rw [zI_sub]
    refine wb (wI_e e1 (z := 0) (by omega)) ?_
    have e0' := MOB_ne (e := .inl (0, 204, .inl (upd F (0 : Int).toNat (zI ((r : Int) - g))))) e0 (show m ≠ m + 1 by omega)
    refine wb (gI_e e0' rfl) ?_
    refine wr ⟨hv, ⟨_, ARR_eq _ _ _ _, fun x => ?_⟩, OFF_up o (by omega)⟩
    by_cases c0 : x = 0
    · rw [upd_eq (by omega), if_pos c0]
    · rw [upd_ne (by omega), if_neg c0, hF x]
      by_cases c2 : 1 + k0 ≤ x ∧ x < 1 + k
      · rw [if_pos c2, if_pos (by omega)]
      · rw [if_neg c2, if_neg (by omega)]
  | succ d ih =>
    intro n h F k hn hk hkk e0 e1 o hF
    obtain ⟨n, rfl⟩ : ∃ k, n = k + 1 := ⟨n - 1, by omega⟩
    have hz : F 0 = zI r := by
      rw [hF, if_neg (by omega), hF0]
    unfold b_X8_merges_65 c_X8_merges_65
    simp only [zl0, zl1, zI_add]
    refine wb (gR_e e0 rfl) ?_
    refine wb (aI_v e1 (z := 0) (by omega) hz) ?_
    refine wf (fun d => absurd ((zI_le (by omega)).mp d) (by omega)) ?_
    refine wb (gR_e e0 rfl) ?_
    refine wb (gR_e e0 rfl) ?_
    refine wb (aI_e e1 (by omega)) ?_
    refine wb (wI_e e1 (by omega)) ?_
    have h9 := ih n _ (upd F (1 + (k : Int)).toNat (F (1 + (k : Int) + g).toNat)) (k + 1) (by omega) (by omega) (by omega) (MOB_ne e0 (show m ≠ m + 1 by omega)) (ARR_eq h (m + 1) 204 _) (OFF_up o (by omega)) (fun x => by
      by_cases c : x = 1 + k
      · rw [upd_eq (by omega), if_pos (by omega), hF, if_neg (by omega)]
        congr 1
        omega
      · rw [upd_ne (by omega), hF x]
        by_cases c2 : 1 + k0 ≤ x ∧ x < 1 + k
        · rw [if_pos c2, if_pos (by omega)]
        · rw [if_neg c2, if_neg (by omega)])
    rw [cast1] at h9
    exact h9
theorem mg_sz {T S : SG} {i sv : Int} {o g : Nat} (hi : 0 ≤ i ∧ i + 1 < S.2.1.length) (ho : (o : Int) = S.2.1.length - 2 - i) (hg : 1 ≤ g ∧ g ≤ 2) (hT : T.2.1 = mgE S.2.1 o g sv) {k : Int} (hk : -1 ≤ k ∧ k < S.2.1.length - g) : (sOf T k = if i - g < k then sOf S (k + g) else sOf S k - sv) ∧ (0 ≤ k → eOf T k = if i + 1 - g < k then eOf S (k + g) else eOf S k - sv) := by
  have hl : T.2.1.length = S.2.1.length - g := by
    rw [hT]
    exact mgE_len (by omega)
  constructor
  · unfold sOf
    rw [hl]
    by_cases c0 : k = S.2.1.length - g - 1
    · rw [iat_out (by omega), if_pos (by omega), iat_out (by omega)]
    · rw [hT, mgE_at (by omega) (by omega)]
      by_cases c : i - g < k
      · rw [if_pos c, if_pos (by omega)]
        congr 1
        omega
      · rw [if_neg c, if_neg (by omega)]
        congr 2
        omega
  · intro hk0
    unfold eOf
    rw [hl, if_pos (by omega), hT, mgE_at (by omega) (by omega)]
    by_cases c : i + 1 - g < k
    · rw [if_pos c, if_pos (by omega), if_pos (by omega)]
      congr 1
      omega
    · rw [if_neg c, if_neg (by omega), if_pos (by omega)]
      congr 2
      omega
theorem X8_merges_is {h : HP} {m : Nat} {v : Nat → Int32} {S : SG} {D : Nat → Bool} {i : Int} (e : CLR h m v S (mgK S i) D) {M : Int} (H : SOK S M) (hF0 : mgF S i = 0) : WP (f_X8_merges h m (zI i)) (fun r => r.1 = zI (mgK S i).length ∧ REF r.2 m (mgS S i) ∧ MOB r.2 m v ∧ OFF (m + 1) 1 h r.2) := by
  have hR := CLR_R e
  have hb := REF_b hR
  have hE := H.2.2.2.2.2.2
  have h5 : (0 ≤ i ∧ i + 1 < S.2.1.length) ∧ S.1.length + (mgK S i).length - (eOf S i - sOf S (i + 1)) ≤ 48 := by
    unfold mgF at hF0
    split at hF0
    · omega
    · split at hF0
      · omega
      · split at hF0 <;> omega
  obtain ⟨hi, h48⟩ := h5
  obtain ⟨p1, p2, p3, p4, p5, p6, p7⟩ := mg_pre hE hi
  have hlen := clP_len H (by omega) (by omega) (nw := i) (ol := i + 1) (by omega)
  have hl := rep_len (S := S) (nw := i) (ol := i + 1) (by omega)
  have hkl : (mgK S i).length = (clP S i (i + 1)).length := rfl
  obtain ⟨k0, ⟨f, k1, kq⟩, k2, ⟨g, k3, k4⟩, k5, -⟩ := e
  obtain ⟨q1, q2⟩ := kq
  have kq : RW f S := ⟨q1, q2⟩
  obtain ⟨u0, u1, u2, u3, u4, u5, u6, u7⟩ := q2
  have hu := u1 i.toNat (by omega)
  rw [show ((i.toNat : Nat) : Int) = i by omega] at hu
  unfold f_X8_merges b_X8_merges_0
  simp only [show (2 : Int32) = zI ((2 : Nat) : Int) by decide, zl0, show (1 : Int32) = zI ((1 : Nat) : Int) by decide, zI_add]
  refine wb hb.2 ?_
  refine wb (X8_begin_is hR (r := i + ((1 : Nat) : Int)) (by omega)) ?_
  refine wb (X8_begin_is hR (r := i) (by omega)) ?_
  refine wb (gR_e k0 rfl) ?_
  refine wb (aI_v k1 (z := ((1 : Nat) : Int) + i) (x := zI (eOf S i - sOf S i)) (by omega) (by rw [show (((1 : Nat) : Int) + i).toNat = 1 + i.toNat by omega]; exact hu)) ?_
  rw [zI_add, show sOf S i + (eOf S i - sOf S i) = eOf S i by omega, show i + ((1 : Nat) : Int) = i + 1 by omega]
  have hr := X8_replace_is hR k0 k1 kq k3 k4 k2 (p := (sOf S (i + 1)).toNat) (q := (eOf S i).toNat) (by omega) (by omega) (by omega)
  rw [show (((sOf S (i + 1)).toNat : Nat) : Int) = sOf S (i + 1) by omega, show (((eOf S i).toNat : Nat) : Int) = eOf S i by omega] at hr
  refine wpb hr ?_
  rintro h1 ⟨⟨F, f1, f2, f3, f4⟩, o1⟩
  have j0 : MOB h1 m v := (o1 _ (by omega)).trans k0
  have hrows : ROWS F (rep S i (i + 1)) := f4
  refine wb (gR_e j0 rfl) ?_
  refine wb (gI_e j0 rfl) ?_
  rw [k2]
  refine wb (wI_e f1 (by omega)) ?_
  have j0' := MOB_ne (e := .inl (0, 204, .inl (upd F (((1 : Nat) : Int) + i).toNat (zI (mgK S i).length)))) j0 (show m ≠ m + 1 by omega)
  have j1' := ARR_eq h1 (m + 1) 204 (upd F (((1 : Nat) : Int) + i).toNat (zI (mgK S i).length))
  have o2 := OFF_up (c := m + 1) (e := .inl (0, 204, .inl (upd F (((1 : Nat) : Int) + i).toNat (zI (mgK S i).length)))) o1 (by omega)
  generalize hup h1 (m + 1) _ = h2 at *
  refine wb (gI_e j0' rfl) ?_
  rw [k2]
  have hroww : ∀ G : Nat → Int32, (∀ x : Nat, 12 ≤ x → G x = F x) → ROWS G (rep S i (i + 1)) := fun G hG j hj => by
    have := hrows j hj
    rw [hG _ (by omega), hG _ (by omega), hG _ (by omega), hG _ (by omega)]
    exact this
  obtain ⟨o, ho⟩ : ∃ o : Nat, (o : Int) = (S.2.1.length : Int) - 2 - i := ⟨((S.2.1.length : Int) - 2 - i).toNat, by omega⟩
  have ho2 : ((S.2.1.length : Int) - 2 - i).toNat = o := by omega
  have hlp : 0 ≤ mgV S i + (mgK S i).length := by
    unfold mgV
    omega
  have fin : ∀ (g0 k0' : Nat), g0 = mgG S i → ((g0 = 1 ∧ (k0' : Int) = i + 1 ∧ 0 < (mgK S i).length) ∨ (g0 = 2 ∧ (k0' : Int) = i ∧ (mgK S i).length = 0)) → WP (b_X8_merges_65 m FU h2 (zI (g0 : Nat)) (zI (k0' : Nat))) (fun r => r.1 = zI (mgK S i).length ∧ REF r.2 m (mgS S i) ∧ MOB r.2 m v ∧ OFF (m + 1) 1 h r.2) := by
    intro g0 k0' hg0 hgk
    have h9 := merges_65 (v := v) (r := S.2.1.length) (g := g0) (k0 := k0') q1.1 (by omega) (by omega) k2 (F0 := upd F (((1 : Nat) : Int) + i).toNat (zI (mgK S i).length)) (h0 := h) (by rw [upd_ne (by omega)]; exact (f2 0 (by omega)).trans u0) (S.2.1.length - g0 - k0') FU h2 _ k0' (by unfold FU; omega) (by omega) (Nat.le_refl _) j0' j1' o2 (fun x => by rw [if_neg (by omega)])
    refine wm h9 ?_
    rintro ⟨x, h3⟩ ⟨r1, ⟨G, g1, g2⟩, r3⟩
    have hk0 : MOB h3 m v := (r3 _ (by omega)).trans k0
    refine ⟨r1, ⟨v, G, hk0, g1, ?_⟩, hk0, r3⟩
    have hT : mgS S i = (rep S i (i + 1), mgE S.2.1 o g0 (mgV S i), S.2.2.1, S.2.2.2.1, S.2.2.2.2 + mgV S i) := by
      unfold mgS
      rw [ho2, hg0]
    rw [hT]
    have hel : (mgE S.2.1 o g0 (mgV S i)).length = S.2.1.length - g0 := mgE_len (by omega)
    have hsz := fun (k : Int) hk => mg_sz (T := (rep S i (i + 1), mgE S.2.1 o g0 (mgV S i), S.2.2.1, S.2.2.2.1, S.2.2.2.2 + mgV S i)) (S := S) hi ho (g := g0) (by omega) rfl (k := k) hk
    have hV : mgV S i = eOf S i - sOf S (i + 1) - (mgK S i).length := rfl
    refine RW_mk kq ⟨by dsimp only; omega, by dsimp only; omega⟩ rfl rfl ?_ (fun k hk => ?_) ?_ (fun x h7 h8 => ?_) ?_ (hroww _ (fun x hx => ?_))
    · dsimp only
      rw [g2, if_pos rfl, hel]
      exact congrArg zI (by omega)
    · dsimp only at hk
      rw [hel] at hk
      obtain ⟨s1, s2⟩ := hsz k (by omega)
      have s2 := s2 (by omega)
      rw [g2, if_neg (by omega), s1, s2]
      by_cases c1 : 1 + k0' ≤ 1 + k
      · rw [if_pos (by omega), if_pos (by omega), if_pos (by omega), upd_ne (by omega), f2 _ (by omega), show 1 + k + g0 = 1 + (k + g0) by omega, u1 (k + g0) (by omega), show ((k + g0 : Nat) : Int) = (k : Int) + g0 by omega]
      · rw [if_neg (by omega)]
        by_cases c2 : (k : Int) = i
        · rw [upd_eq (by omega), if_neg (by omega), if_pos (by omega), show (k : Int) + g0 = i + 1 by omega, c2]
          exact congrArg zI (by omega)
        · rw [upd_ne (by omega), f2 _ (by omega), u1 k (by omega), if_neg (by omega)]
          by_cases c3 : i - g0 < k
          · rw [if_pos c3, show (k : Int) + g0 = i + 1 by omega]
            have h8 := plc2 S (i := k) (by omega)
            rw [show (k : Int) + 1 = i by omega] at h8
            exact congrArg zI (by omega)
          · rw [if_neg c3]
            exact congrArg zI (by omega)
    · obtain ⟨s1, -⟩ := hsz (-1) (by omega)
      rw [g2, if_neg (by omega), if_neg (by omega), upd_ne (by omega), f2 6 (by omega), u2, eOf_m1, eOf_m1, s1]
      dsimp only
      by_cases c3 : i - g0 < -1
      · rw [if_pos c3, show (-1 : Int) + g0 = i + 1 by omega]
        have h8 := plc2 S (i := -1) (by omega)
        rw [show (-1 : Int) + 1 = i by omega] at h8
        exact congrArg zI (by omega)
      · rw [if_neg c3]
        exact congrArg zI (by omega)
    · rw [g2, if_neg (by omega), if_neg (by omega), upd_ne (by omega), f2 x (by omega)]
    · rw [g2, if_neg (by omega), if_neg (by omega), upd_ne (by omega), f3]
      dsimp only
      exact congrArg zI (by omega)
    · rw [g2, if_neg (by omega), if_neg (by omega), upd_ne (by omega)]
  by_cases c : (mgK S i).length = 0
  · have hg : mgG S i = 2 := by
      unfold mgG
      rw [if_neg (by omega)]
    refine wt ((zI_le (by omega)).mpr (by omega)) ?_
    unfold b_X8_merges_49
    refine wb (gI_e j0' rfl) ?_
    rw [k2, zl0]
    refine wt ((zI_le (by omega)).mpr (by omega)) ?_
    have := fin 2 i.toNat hg.symm (Or.inr ⟨rfl, by omega, c⟩)
    rw [show ((i.toNat : Nat) : Int) = i by omega] at this
    exact this
  · have hg : mgG S i = 1 := by
      unfold mgG
      rw [if_pos (by omega)]
    refine wf (fun d => c (by have := (zI_le (by omega)).mp d; omega)) ?_
    unfold b_X8_merges_49
    refine wb (gI_e j0' rfl) ?_
    rw [k2, zl0, zl1, zI_add]
    refine wf (fun d => c (by have := (zI_le (by omega)).mp d; omega)) ?_
    have := fin 1 (i.toNat + 1) hg.symm (Or.inl ⟨rfl, by omega, by omega⟩)
    rw [show ((i.toNat + 1 : Nat) : Int) = i + 1 by omega] at this
    exact this
