/-! the reference puts what is laid out in place -/
def ROWS (f : Nat → Int32) (ws : List WR) : Prop := ∀ j : Nat, j < ws.length → f (12 + 4 * j) = zI (wat ws j).1 ∧ f (13 + 4 * j) = zI (wat ws j).2.1 ∧ f (14 + 4 * j) = zI (wat ws j).2.2.1 ∧ f (15 + 4 * j) = zI (wat ws j).2.2.2
theorem wat_rep {ws bs : List WR} {p q : Nat} (h1 : p ≤ q) (h2 : q ≤ ws.length) {j : Nat} (hj : j < p + bs.length + (ws.length - q)) : wat (ws.take p ++ bs ++ ws.drop q) j = if j < p then wat ws j else if j < p + bs.length then wat bs ((j - p : Nat) : Int) else wat ws ((j - (p + bs.length) + q : Nat) : Int) := by
  have hl : (ws.take p ++ bs ++ ws.drop q).length = p + bs.length + (ws.length - q) := by
    rw [List.length_append, List.length_append, List.length_take, List.length_drop]
    omega
  have hp : (ws.take p).length = p := by
    rw [List.length_take]
    omega
  rw [wat_get (by omega)]
  by_cases c1 : j < p
  · rw [if_pos c1, wat_get (show j < ws.length by omega), List.getElem_append_left (by rw [List.length_append]; omega), List.getElem_append_left (by omega), List.getElem_take]
  · rw [if_neg c1]
    by_cases c2 : j < p + bs.length
    · rw [if_pos c2, wat_get (by omega), List.getElem_append_left (by rw [List.length_append]; omega), List.getElem_append_right (by omega)]
      congr 1
      omega
    · rw [if_neg c2, wat_get (by omega), List.getElem_append_right (by rw [List.length_append]; omega), List.getElem_drop]
      congr 1
      rw [List.length_append]
      omega
theorem len_rep {ws bs : List WR} {p q : Nat} (h1 : p ≤ q) (h2 : q ≤ ws.length) : (ws.take p ++ bs ++ ws.drop q).length = p + bs.length + (ws.length - q) := by
  rw [List.length_append, List.length_append, List.length_take, List.length_drop]
  omega
theorem rep_84 {m : Nat} {v : Nat → Int32} {ls : List WR} {p : Nat} (hv : v 10 = zI ls.length) {g : Nat → Int32} {f : Nat → Int32} {by_ few : Int} (hpl : p + ls.length ≤ 48) {h0 : HP} : ∀ (r n : Nat) (h : HP) (F : Nat → Int32) (k : Nat), r < n → k + r = 4 * ls.length → MOB h m v → ARR h (m + 1) 204 F → ARR h (m + 7) 1600 g → OFF (m + 1) 1 h0 h → f 11 = zI few → (∀ x : Nat, F x = if 12 + 4 * p ≤ x ∧ x < 12 + 4 * p + k then g (x - (12 + 4 * p)) else f x) → WP (b_X8_replace_84 m (zI p) n h (zI by_) (zI k)) (fun h' => (∃ F', ARR h' (m + 1) 204 F' ∧ ∀ x : Nat, F' x = if x = 11 then zI (few - by_) else if 12 + 4 * p ≤ x ∧ x < 12 + 4 * p + 4 * ls.length then g (x - (12 + 4 * p)) else f x) ∧ OFF (m + 1) 1 h0 h') := by
  intro r
  induction r with
  | zero =>
    intro n h F k hn hk e0 e1 e2 o hf hF
    obtain ⟨n, rfl⟩ : ∃ k, n = k + 1 := ⟨n - 1, by omega⟩
    unfold b_X8_replace_84 c_X8_replace_84
    simp only [show (4 : Int32) = zI 4 by decide, show (11 : Int32) = zI 11 by decide]
    refine wb (gI_e e0 rfl) ?_
    rw [hv, zI_mul]
    refine wt ((zI_le (by omega)).mpr (by omega)) ?_
    refine wb (gR_e e0 rfl) ?_
    refine wb (aI_v e1 (z := 11) (x := zI few) (by omega) (by rw [show (11 : Int).toNat = 11 from rfl, hF, if_neg (by omega), hf])) ?_
    rw [zI_sub]
    refine wb (wI_e e1 (z := 11) (by omega)) ?_
    refine wr ⟨⟨_, ARR_eq _ _ _ _, fun x => ?_⟩, OFF_up o (by omega)⟩
    by_cases c : x = 11
    · rw [upd_eq (by omega), if_pos c]
    · rw [upd_ne (by omega), if_neg c, hF x, show k = 4 * ls.length by omega]
  | succ r ih =>
    intro n h F k hn hk e0 e1 e2 o hf hF
    obtain ⟨n, rfl⟩ : ∃ k, n = k + 1 := ⟨n - 1, by omega⟩
    unfold b_X8_replace_84 c_X8_replace_84
    simp only [show (4 : Int32) = zI 4 by decide, show (11 : Int32) = zI 11 by decide, zl0, zl1, zI_add]
    refine wb (gI_e e0 rfl) ?_
    rw [hv, zI_mul]
    refine wf (fun d => absurd ((zI_le (by omega)).mp d) (by omega)) ?_
    refine wb (gR_e e0 rfl) ?_
    refine wb (X8_of_is _ _ _) ?_
    refine wb (gR_e e0 rfl) ?_
    refine wb (aI_e e2 (by omega)) ?_
    rw [zI_add]
    refine wb (wI_e e1 (by omega)) ?_
    have h9 := ih n _ (upd F (12 + 4 * (p : Int) + 0 + k).toNat (g (k : Int).toNat)) (k + 1) (by omega) (by omega) (MOB_ne e0 (show m ≠ m + 1 by omega)) (ARR_eq h (m + 1) 204 _) (ARR_ne e2 (show m + 7 ≠ m + 1 by omega)) (OFF_up o (by omega)) hf (fun x => by
      by_cases c : x = 12 + 4 * p + k
      · rw [upd_eq (by omega), if_pos (by omega)]
        congr 1
        omega
      · rw [upd_ne (by omega), hF x]
        by_cases c2 : 12 + 4 * p ≤ x ∧ x < 12 + 4 * p + k
        · rw [if_pos c2, if_pos (by omega)]
        · rw [if_neg c2, if_neg (by omega)])
    rw [cast1] at h9
    exact h9
theorem rep_18 {m : Nat} {v : Nat → Int32} {ls : List WR} {p q len : Nat} (h1 : p ≤ q) (h2 : q ≤ len) (hl : len ≤ 48) (h3 : p + ls.length + (len - q) ≤ 48) {f : Nat → Int32} {by_ : Int} (hby : by_ = ls.length - ((q : Int) - p)) {h0 : HP} {P : HP → Prop} (hk : ∀ h F, MOB h m v → ARR h (m + 1) 204 F → OFF (m + 1) 1 h0 h → (∀ x : Nat, F x = if 12 + 4 * (p + ls.length) ≤ x ∧ x < 12 + 4 * (p + ls.length) + 4 * (len - q) then f (x - 4 * (p + ls.length) + 4 * q) else f x) → WP (b_X8_replace_84 m (zI p) FU h (zI by_) (zI 0)) P) : ∀ (r n : Nat) (h : HP) (F : Nat → Int32) (k : Nat), r < n → k + r = 4 * (len - q) → MOB h m v → ARR h (m + 1) 204 F → OFF (m + 1) 1 h0 h → (∀ x : Nat, F x = if (by_ < 0 ∧ 12 + 4 * (p + ls.length) ≤ x ∧ x < 12 + 4 * (p + ls.length) + k) ∨ (0 ≤ by_ ∧ 12 + 4 * (p + ls.length) + 4 * (len - q) ≤ x + k ∧ x < 12 + 4 * (p + ls.length) + 4 * (len - q)) then f (x - 4 * (p + ls.length) + 4 * q) else f x) → WP (b_X8_replace_18 m (zI p) (zI q) n h (zI len) (zI by_) (zI k)) P := by
  intro r
  induction r with
  | zero =>
    intro n h F k hn hr e0 e1 o hF
    obtain ⟨n, rfl⟩ : ∃ k, n = k + 1 := ⟨n - 1, by omega⟩
    unfold b_X8_replace_18 c_X8_replace_18
    simp only [show (4 : Int32) = zI 4 by decide, zI_sub, zI_mul, zl0]
    refine wt ((zI_le (by omega)).mpr (by omega)) ?_
    refine hk h F e0 e1 o (fun x => ?_)
    rw [hF x]
    by_cases c : 12 + 4 * (p + ls.length) ≤ x ∧ x < 12 + 4 * (p + ls.length) + 4 * (len - q)
    · rw [if_pos c, if_pos (by omega)]
    · rw [if_neg c, if_neg (by omega)]
  | succ r ih =>
    intro n h F k hn hr e0 e1 o hF
    obtain ⟨n, rfl⟩ : ∃ k, n = k + 1 := ⟨n - 1, by omega⟩
    have step : ∀ z : Int, (by_ < 0 ∧ z = 12 + 4 * q + k) ∨ (0 ≤ by_ ∧ z = 12 + 4 * len - 1 - k) → WP (b_X8_replace_54 m (zI p) (zI q) (b_X8_replace_18 m (zI p) (zI q) n) h (zI len) (zI by_) (zI k) (zI z)) P := by
      intro z hz
      unfold b_X8_replace_54
      simp only [show (4 : Int32) = zI 4 by decide, zl1, zI_mul, zI_add]
      refine wb (gR_e e0 rfl) ?_
      refine wb (gR_e e0 rfl) ?_
      refine wb (aI_e e1 (by omega)) ?_
      refine wb (wI_e e1 (by omega)) ?_
      have hz2 : F z.toNat = f z.toNat := by
        rw [hF, if_neg (by omega)]
      have h9 := ih n _ (upd F (z + 4 * by_).toNat (F z.toNat)) (k + 1) (by omega) (by omega) (MOB_ne e0 (show m ≠ m + 1 by omega)) (ARR_eq h (m + 1) 204 _) (OFF_up o (by omega)) (fun x => by
        by_cases c : x = (z + 4 * by_).toNat
        · rw [upd_eq c, if_pos (by omega), hz2]
          congr 1
          omega
        · rw [upd_ne c, hF x]
          by_cases c2 : (by_ < 0 ∧ 12 + 4 * (p + ls.length) ≤ x ∧ x < 12 + 4 * (p + ls.length) + k) ∨ (0 ≤ by_ ∧ 12 + 4 * (p + ls.length) + 4 * (len - q) ≤ x + k ∧ x < 12 + 4 * (p + ls.length) + 4 * (len - q))
          · rw [if_pos c2, if_pos (by omega)]
          · rw [if_neg c2, if_neg (by omega)])
      rw [cast1] at h9
      exact h9
    unfold b_X8_replace_18 c_X8_replace_18
    simp only [show (4 : Int32) = zI 4 by decide, zI_sub, zI_mul, zl0]
    refine wf (fun d => absurd ((zI_le (by omega)).mp d) (by omega)) ?_
    by_cases c : by_ < 0
    · refine wf (fun d => absurd ((zI_le (by omega)).mp d) (by omega)) ?_
      refine wb (X8_of_is _ _ _) ?_
      rw [zI_add]
      exact step _ (Or.inl ⟨c, by omega⟩)
    · refine wt ((zI_le (by omega)).mpr (by omega)) ?_
      refine wb (X8_of_is _ _ _) ?_
      rw [zl1, zI_sub, zI_sub]
      exact step _ (Or.inr ⟨by omega, by omega⟩)
theorem X8_replace_is {h : HP} {m : Nat} {v : Nat → Int32} {S : SG} {ls : List WR} {f g : Nat → Int32} (e : REF h m S) (e0 : MOB h m v) (e1 : ARR h (m + 1) 204 f) (q0 : RW f S) (e2 : ARR h (m + 7) 1600 g) (hg : LWS g ls) (hv : v 10 = zI ls.length) {p q : Nat} (h1 : p ≤ q) (h2 : q ≤ S.1.length) (h3 : p + ls.length + (S.1.length - q) ≤ 48) : WP (f_X8_replace h m (zI p) (zI q)) (fun h' => (∃ F, ARR h' (m + 1) 204 F ∧ (∀ x : Nat, x < 11 → F x = f x) ∧ F 11 = zI (S.2.2.2.2 - (ls.length - ((q : Int) - p))) ∧ ROWS F (S.1.take p ++ ls ++ S.1.drop q)) ∧ OFF (m + 1) 1 h h') := by
  have hb := REF_b e
  obtain ⟨⟨b1, b2, b3⟩, u0, u1, u2, u3, u4, u5, u6, u7⟩ := q0
  unfold f_X8_replace b_X8_replace_0
  refine wb hb.2 ?_
  refine wb (X8_all_is e) ?_
  refine wb (gI_e e0 rfl) ?_
  rw [hv, zl0]
  simp only [zI_sub]
  refine rep_18 (v := v) (ls := ls) (len := S.1.length) (h0 := h) (f := f) h1 h2 b2 h3 rfl (fun h5 F k0 k1 o hF => ?_) (4 * (S.1.length - q)) FU h f 0 (by unfold FU; omega) (by omega) e0 e1 (OFF_refl _ _ _) (fun x => by rw [if_neg (by omega)])
  have h9 := rep_84 (v := v) (ls := ls) (p := p) hv (g := g) (f := F) (by_ := (ls.length : Int) - ((q : Int) - p)) (few := S.2.2.2.2) (by omega) (h0 := h) (4 * ls.length) FU h5 F 0 (by unfold FU; omega) (by omega) k0 k1 ((o _ (by omega)).trans e2) o (by rw [hF, if_neg (by omega), u6]) (fun x => by rw [if_neg (by omega)])
  refine wm h9 ?_
  rintro h6 ⟨⟨F', r1, r2⟩, r3⟩
  refine ⟨⟨F', r1, fun x hx => ?_, ?_, fun j hj => ?_⟩, r3⟩
  · rw [r2 x, if_neg (by omega), if_neg (by omega), hF x, if_neg (by omega)]
  · rw [r2 11, if_pos rfl]
  · rw [len_rep h1 h2] at hj
    rw [wat_rep h1 h2 hj]
    have rd : ∀ t : Nat, t < 4 → F' (12 + t + 4 * j) = if j < p then f (12 + t + 4 * j) else if j < p + ls.length then g (4 * (j - p) + t) else f (12 + t + 4 * (j - (p + ls.length) + q)) := by
      intro t ht
      rw [r2, if_neg (by omega)]
      by_cases c1 : j < p
      · rw [if_pos c1, if_neg (by omega), hF, if_neg (by omega)]
      · rw [if_neg c1]
        by_cases c2 : j < p + ls.length
        · rw [if_pos c2, if_pos (by omega)]
          congr 1
          omega
        · rw [if_neg c2, if_neg (by omega), hF, if_pos (by omega)]
          congr 1
          omega
    have t0 := rd 0 (by omega)
    have t1 := rd 1 (by omega)
    have t2 := rd 2 (by omega)
    have t3 := rd 3 (by omega)
    rw [show 12 + 0 + 4 * j = 12 + 4 * j by omega] at t0
    rw [show 12 + 1 + 4 * j = 13 + 4 * j by omega] at t1
    rw [show 12 + 2 + 4 * j = 14 + 4 * j by omega] at t2
    rw [show 12 + 3 + 4 * j = 15 + 4 * j by omega] at t3
    rw [t0, t1, t2, t3]
    by_cases c1 : j < p
    · simp only [if_pos c1]
      exact u7 j (by omega)
    · simp only [if_neg c1]
      by_cases c2 : j < p + ls.length
      · simp only [if_pos c2]
        exact hg (j - p) (by omega)
      · simp only [if_neg c2]
        exact u7 (j - (p + ls.length) + q) (by omega)
