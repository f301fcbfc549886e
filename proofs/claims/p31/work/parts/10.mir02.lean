theorem dX7_best_0 : decode (mB M_X7_best) 0 = .ok (.iconst (-1), 1) := by decide +kernel
theorem dX7_best_1 : decode (mB M_X7_best) 1 = .ok (.istore_n 1, 1) := by decide +kernel
theorem dX7_best_2 : decode (mB M_X7_best) 2 = .ok (.iconst 0, 1) := by decide +kernel
theorem dX7_best_3 : decode (mB M_X7_best) 3 = .ok (.istore_n 2, 1) := by decide +kernel
theorem dX7_best_4 : decode (mB M_X7_best) 4 = .ok (.iconst 0, 1) := by decide +kernel
theorem dX7_best_5 : decode (mB M_X7_best) 5 = .ok (.istore_n 3, 1) := by decide +kernel
theorem dX7_best_6 : decode (mB M_X7_best) 6 = .ok (.iload_n 3, 1) := by decide +kernel
theorem dX7_best_7 : decode (mB M_X7_best) 7 = .ok (.aload_n 0, 1) := by decide +kernel
theorem dX7_best_8 : decode (mB M_X7_best) 8 = .ok (.getfield 24, 3) := by decide +kernel
theorem dX7_best_11 : decode (mB M_X7_best) 11 = .ok (.invokevirtual 105, 3) := by decide +kernel
theorem dX7_best_14 : decode (mB M_X7_best) 14 = .ok (.if_icmp .ge 48, 3) := by decide +kernel
theorem dX7_best_17 : decode (mB M_X7_best) 17 = .ok (.aload_n 0, 1) := by decide +kernel
theorem dX7_best_18 : decode (mB M_X7_best) 18 = .ok (.getfield 24, 3) := by decide +kernel
theorem dX7_best_21 : decode (mB M_X7_best) 21 = .ok (.iload_n 3, 1) := by decide +kernel
theorem dX7_best_22 : decode (mB M_X7_best) 22 = .ok (.invokevirtual 237, 3) := by decide +kernel
theorem dX7_best_25 : decode (mB M_X7_best) 25 = .ok (.ifCond .eq 31, 3) := by decide +kernel
theorem dX7_best_28 : decode (mB M_X7_best) 28 = .ok (.iload_n 1, 1) := by decide +kernel
theorem dX7_best_29 : decode (mB M_X7_best) 29 = .ok (.iconst (-1), 1) := by decide +kernel
theorem dX7_best_30 : decode (mB M_X7_best) 30 = .ok (.if_icmp .eq 15, 3) := by decide +kernel
theorem dX7_best_33 : decode (mB M_X7_best) 33 = .ok (.aload_n 0, 1) := by decide +kernel
theorem dX7_best_34 : decode (mB M_X7_best) 34 = .ok (.getfield 24, 3) := by decide +kernel
theorem dX7_best_37 : decode (mB M_X7_best) 37 = .ok (.iload_n 3, 1) := by decide +kernel
theorem dX7_best_38 : decode (mB M_X7_best) 38 = .ok (.invokevirtual 267, 3) := by decide +kernel
theorem dX7_best_41 : decode (mB M_X7_best) 41 = .ok (.iload_n 2, 1) := by decide +kernel
theorem dX7_best_42 : decode (mB M_X7_best) 42 = .ok (.if_icmp .le 14, 3) := by decide +kernel
theorem dX7_best_45 : decode (mB M_X7_best) 45 = .ok (.iload_n 3, 1) := by decide +kernel
theorem dX7_best_46 : decode (mB M_X7_best) 46 = .ok (.istore_n 1, 1) := by decide +kernel
theorem dX7_best_47 : decode (mB M_X7_best) 47 = .ok (.aload_n 0, 1) := by decide +kernel
theorem dX7_best_48 : decode (mB M_X7_best) 48 = .ok (.getfield 24, 3) := by decide +kernel
theorem dX7_best_51 : decode (mB M_X7_best) 51 = .ok (.iload_n 3, 1) := by decide +kernel
theorem dX7_best_52 : decode (mB M_X7_best) 52 = .ok (.invokevirtual 267, 3) := by decide +kernel
theorem dX7_best_55 : decode (mB M_X7_best) 55 = .ok (.istore_n 2, 1) := by decide +kernel
theorem dX7_best_56 : decode (mB M_X7_best) 56 = .ok (.iinc 3 1, 3) := by decide +kernel
theorem dX7_best_59 : decode (mB M_X7_best) 59 = .ok (.goto (-53), 3) := by decide +kernel
theorem dX7_best_62 : decode (mB M_X7_best) 62 = .ok (.iload_n 1, 1) := by decide +kernel
theorem dX7_best_63 : decode (mB M_X7_best) 63 = .ok (.ireturn, 1) := by decide +kernel
def b_X7_best_45 (v0 : Nat) (k6 : HP → Int32 → Int32 → Int32 → Option (Int32 × HP)) (h : HP) (v3 : Int32) : Option (Int32 × HP) :=
  (gR 7 1 h v0).bind fun x1 => (f_X3_savedBy h x1 v3).bind fun y2 => k6 y2.2 v3 y2.1 (v3 + 1)
def c_X7_best_6 (v0 : Nat) (k6 : HP → Int32 → Int32 → Int32 → Option (Int32 × HP)) (h : HP) (v1 : Int32) (v2 : Int32) (v3 : Int32) : Option (Int32 × HP) :=
  (gR 7 1 h v0).bind fun x1 => (f_X3_runs h x1).bind fun y2 => if y2 ≤ v3 then some (v1, h) else (gR 7 1 h v0).bind fun x4 => (f_X3_canMerge h x4 v3).bind fun y5 => if y5.1 = 0 then k6 y5.2 v1 v2 (v3 + 1) else if v1 = (-1) then b_X7_best_45 v0 k6 y5.2 v3 else (gR 7 1 y5.2 v0).bind fun x8 => (f_X3_savedBy y5.2 x8 v3).bind fun y9 => if y9.1 ≤ v2 then k6 y9.2 v1 v2 (v3 + 1) else b_X7_best_45 v0 k6 y9.2 v3
def b_X7_best_6 (v0 : Nat) : Nat → HP → Int32 → Int32 → Int32 → Option (Int32 × HP)
  | 0, _, _, _, _ => none
  | n + 1, h, v1, v2, v3 => c_X7_best_6 v0 (b_X7_best_6 v0 n) h v1 v2 v3
def b_X7_best_0 (v0 : Nat) (h : HP) : Option (Int32 × HP) :=
  b_X7_best_6 v0 FU h ((-1)) 0 0
def f_X7_best (h : HP) (v0 : Nat) : Option (Int32 × HP) := (kO 7 h v0).bind fun _ => b_X7_best_0 v0 h
theorem w_X7_best_45 {l : Launch} {X : SCR} {Q : PST} {bc bs : Nat} {res : Int32 × HP} {h : HP} (hQ : ∀ sz', Q (.inl (some (.int res.1))) res.2 sz') {v0 : Nat} {k6 : HP → Int32 → Int32 → Int32 → Option (Int32 × HP)} (hk6 : ∀ (h : HP) (v1 : Int32) (v2 : Int32) (v3 : Int32) (sz : Nat), k6 h v1 v2 v3 = some res → SP l X M_X7_best 6 [(0, .ref v0), (1, .int v1), (2, .int v2), (3, .int v3)] [] h sz bc bs Q) {v3 : Int32} {sz : Nat} (hf : b_X7_best_45 v0 k6 h v3 = some res) : SP l X M_X7_best 45 [(0, .ref v0), (3, .int v3)] [] h sz bc bs Q := by
  rw [b_X7_best_45] at hf
  refine sp_iload_n (pc := 45) dX7_best_45 1 rfl ?_
  refine sp_istore_n (pc := 46) (lv' := [(1, .int v3), (0, .ref v0), (3, .int v3)]) dX7_best_46 (by decide) rfl ?_
  refine sp_aload_n (pc := 47) dX7_best_47 1 rfl ?_
  obtain ⟨x1, ex1, hf⟩ := ob hf
  refine sp_gR (pc := 48) fl_RX7_24 dX7_best_48 ex1 ?_
  refine sp_iload_n (pc := 51) dX7_best_51 2 rfl ?_
  obtain ⟨y2, ey2, hf⟩ := ob hf
  obtain ⟨fsy2, hoy2⟩ := o_X3_savedBy ey2
  refine sp_callVi (pc := 52) (z := M_X3_savedBy) (As := [.int v3]) (b := x1) (bc2 := bc) (bs2 := bs) (m_X3_savedBy (Q := _) (fun sz => ⟨y2.1, rfl, ?_⟩) ey2) rfl dX7_best_52 hoy2 rfl rfl ck_X7_best_267 (Nat.le_of_ble_eq_true rfl) rfl rfl rfl
  refine sp_istore_n (pc := 55) (lv' := [(2, .int y2.1), (1, .int v3), (0, .ref v0), (3, .int v3)]) dX7_best_55 (by decide) rfl ?_
  refine sp_iinc (pc := 56) (v := v3 + 1) (lv' := [(3, .int (v3 + 1)), (2, .int y2.1), (1, .int v3), (0, .ref v0)]) dX7_best_56 3 rfl rfl (by decide) rfl ?_
  refine sp_goto (pc := 59) (tgt := 6) dX7_best_59 (by decide) ?_
  exact sp_sub [3, 2, 1, 0] rfl (hk6 _ _ _ _ _ hf)

theorem wc_X7_best_6 {l : Launch} {X : SCR} {Q : PST} {bc bs : Nat} {res : Int32 × HP} (hQ : ∀ sz', Q (.inl (some (.int res.1))) res.2 sz') {v0 : Nat} {k6 : HP → Int32 → Int32 → Int32 → Option (Int32 × HP)} (hk6 : ∀ (h : HP) (v1 : Int32) (v2 : Int32) (v3 : Int32) (sz : Nat), k6 h v1 v2 v3 = some res → SP l X M_X7_best 6 [(0, .ref v0), (1, .int v1), (2, .int v2), (3, .int v3)] [] h sz bc bs Q) {h : HP} {v1 : Int32} {v2 : Int32} {v3 : Int32} {sz : Nat} (hf : c_X7_best_6 v0 k6 h v1 v2 v3 = some res) : SP l X M_X7_best 6 [(0, .ref v0), (1, .int v1), (2, .int v2), (3, .int v3)] [] h sz bc bs Q := by
  rw [c_X7_best_6] at hf
  refine sp_iload_n (pc := 6) dX7_best_6 3 rfl ?_
  refine sp_aload_n (pc := 7) dX7_best_7 0 rfl ?_
  obtain ⟨x1, ex1, hf⟩ := ob hf
  refine sp_gR (pc := 8) fl_RX7_24 dX7_best_8 ex1 ?_
  obtain ⟨y2, ey2, hf⟩ := ob hf
  obtain ⟨fsy2, hoy2⟩ := o_X3_runs ey2
  refine sp_callVi (pc := 11) (z := M_X3_runs) (As := []) (b := x1) (bc2 := bc) (bs2 := bs) (m_X3_runs (Q := _) (fun sz => ⟨y2, rfl, ?_⟩) ey2) rfl dX7_best_11 hoy2 rfl rfl ck_X7_best_105 (Nat.le_of_ble_eq_true rfl) rfl rfl rfl
  refine sp_icmp_ge (pc := 14) (tgt := 62) dX7_best_14 (by decide) (fun c3 => ?_) (fun c3 => ?_)
  · rw [if_pos c3] at hf
    refine sp_iload_n (pc := 62) dX7_best_62 1 rfl ?_
    obtain rfl := Option.some.inj hf
    exact sp_ireturn (pc := 63) dX7_best_63 rfl rfl (hQ _)
  · rw [if_neg c3] at hf
    refine sp_aload_n (pc := 17) dX7_best_17 0 rfl ?_
    obtain ⟨x4, ex4, hf⟩ := ob hf
    refine sp_gR (pc := 18) fl_RX7_24 dX7_best_18 ex4 ?_
    refine sp_iload_n (pc := 21) dX7_best_21 3 rfl ?_
    obtain ⟨y5, ey5, hf⟩ := ob hf
    obtain ⟨fsy5, hoy5⟩ := o_X3_canMerge ey5
    refine sp_callVi (pc := 22) (z := M_X3_canMerge) (As := [.int v3]) (b := x4) (bc2 := bc) (bs2 := bs) (m_X3_canMerge (Q := _) (fun sz => ⟨y5.1, rfl, ?_⟩) ey5) rfl dX7_best_22 hoy5 rfl rfl ck_X7_best_237 (Nat.le_of_ble_eq_true rfl) rfl rfl rfl
    refine sp_if_eq (pc := 25) (tgt := 56) dX7_best_25 (by decide) (fun c6 => ?_) (fun c6 => ?_)
    · rw [if_pos c6] at hf
      refine sp_iinc (pc := 56) (v := v3 + 1) (lv' := [(3, .int (v3 + 1)), (0, .ref v0), (1, .int v1), (2, .int v2)]) dX7_best_56 3 rfl rfl (by decide) rfl ?_
      refine sp_goto (pc := 59) (tgt := 6) dX7_best_59 (by decide) ?_
      exact sp_sub [1, 2, 3, 0] rfl (hk6 _ _ _ _ _ hf)
    · rw [if_neg c6] at hf
      refine sp_iload_n (pc := 28) dX7_best_28 1 rfl ?_
      refine sp_iconst (pc := 29) (v := (-1)) dX7_best_29 (by decide) ?_
      refine sp_icmp_eq (pc := 30) (tgt := 45) dX7_best_30 (by decide) (fun c7 => ?_) (fun c7 => ?_)
      · rw [if_pos c7] at hf
        exact sp_sub [0, 3] rfl (w_X7_best_45 hQ hk6 hf)
      · rw [if_neg c7] at hf
        refine sp_aload_n (pc := 33) dX7_best_33 0 rfl ?_
        obtain ⟨x8, ex8, hf⟩ := ob hf
        refine sp_gR (pc := 34) fl_RX7_24 dX7_best_34 ex8 ?_
        refine sp_iload_n (pc := 37) dX7_best_37 3 rfl ?_
        obtain ⟨y9, ey9, hf⟩ := ob hf
        obtain ⟨fsy9, hoy9⟩ := o_X3_savedBy ey9
        refine sp_callVi (pc := 38) (z := M_X3_savedBy) (As := [.int v3]) (b := x8) (bc2 := bc) (bs2 := bs) (m_X3_savedBy (Q := _) (fun sz => ⟨y9.1, rfl, ?_⟩) ey9) rfl dX7_best_38 hoy9 rfl rfl ck_X7_best_267 (Nat.le_of_ble_eq_true rfl) rfl rfl rfl
        refine sp_iload_n (pc := 41) dX7_best_41 2 rfl ?_
        refine sp_icmp_le (pc := 42) (tgt := 56) dX7_best_42 (by decide) (fun c10 => ?_) (fun c10 => ?_)
        · rw [if_pos c10] at hf
          refine sp_iinc (pc := 56) (v := v3 + 1) (lv' := [(3, .int (v3 + 1)), (0, .ref v0), (1, .int v1), (2, .int v2)]) dX7_best_56 3 rfl rfl (by decide) rfl ?_
          refine sp_goto (pc := 59) (tgt := 6) dX7_best_59 (by decide) ?_
          exact sp_sub [1, 2, 3, 0] rfl (hk6 _ _ _ _ _ hf)
        · rw [if_neg c10] at hf
          exact sp_sub [0, 3] rfl (w_X7_best_45 hQ hk6 hf)

theorem w_X7_best_6 {l : Launch} {X : SCR} {Q : PST} {bc bs : Nat} {res : Int32 × HP} (hQ : ∀ sz', Q (.inl (some (.int res.1))) res.2 sz') {v0 : Nat} : ∀ (n : Nat) {h : HP} {v1 : Int32} {v2 : Int32} {v3 : Int32} {sz : Nat}, b_X7_best_6 v0 n h v1 v2 v3 = some res → SP l X M_X7_best 6 [(0, .ref v0), (1, .int v1), (2, .int v2), (3, .int v3)] [] h sz bc bs Q := by
  intro n
  induction n with
  | zero =>
    intro h v1 v2 v3 sz hf
    rw [b_X7_best_6] at hf
    cases hf
  | succ n ih =>
    intro h v1 v2 v3 sz hf
    rw [b_X7_best_6] at hf
    exact wc_X7_best_6 hQ (fun h v1 v2 v3 sz hf => ih hf) hf

theorem w_X7_best_0 {l : Launch} {X : SCR} {Q : PST} {bc bs : Nat} {res : Int32 × HP} {h : HP} (hQ : ∀ sz', Q (.inl (some (.int res.1))) res.2 sz') {v0 : Nat} {sz : Nat} (hf : b_X7_best_0 v0 h  = some res) : SP l X M_X7_best 0 [(0, .ref v0)] [] h sz bc bs Q := by
  rw [b_X7_best_0] at hf
  refine sp_iconst (pc := 0) (v := (-1)) dX7_best_0 (by decide) ?_
  refine sp_istore_n (pc := 1) (lv' := [(1, .int (-1)), (0, .ref v0)]) dX7_best_1 (by decide) rfl ?_
  refine sp_iconst (pc := 2) (v := 0) dX7_best_2 (by decide) ?_
  refine sp_istore_n (pc := 3) (lv' := [(2, .int 0), (1, .int (-1)), (0, .ref v0)]) dX7_best_3 (by decide) rfl ?_
  refine sp_iconst (pc := 4) (v := 0) dX7_best_4 (by decide) ?_
  refine sp_istore_n (pc := 5) (lv' := [(3, .int 0), (2, .int 0), (1, .int (-1)), (0, .ref v0)]) dX7_best_5 (by decide) rfl ?_
  exact sp_sub [3, 2, 1, 0] rfl (w_X7_best_6 hQ FU hf)

theorem o_X7_best {h : HP} {v0 : Nat} {res : Int32 × HP} (hf : f_X7_best h v0 = some res) : ∃ fs, h v0 = some (.inr (7, fs)) := by
  obtain ⟨u, eu, -⟩ := ob hf
  exact kO_spec eu

theorem m_X7_best {l : Launch} {Q : PST} {h : HP} {v0 : Nat} {sz : Nat} {res : Int32 × HP} (hQ : ∀ sz', Q (.inl (some (.int res.1))) res.2 sz') (hf : f_X7_best h v0 = some res) : MM l M_X7_best [.ref v0] h sz Q := by
  obtain ⟨u, eu, hf⟩ := ob hf
  exact MM_of wok_X7_best (by decide +kernel) (Nat.le_of_ble_eq_true rfl) ((w_X7_best_0 hQ hf))

theorem dX7_fewest_0 : decode (mB M_X7_fewest) 0 = .ok (.aload_n 0, 1) := by decide +kernel
theorem dX7_fewest_1 : decode (mB M_X7_fewest) 1 = .ok (.getfield 28, 3) := by decide +kernel
theorem dX7_fewest_4 : decode (mB M_X7_fewest) 4 = .ok (.aload_n 0, 1) := by decide +kernel
theorem dX7_fewest_5 : decode (mB M_X7_fewest) 5 = .ok (.getfield 24, 3) := by decide +kernel
theorem dX7_fewest_8 : decode (mB M_X7_fewest) 8 = .ok (.invokevirtual 270, 3) := by decide +kernel
theorem dX7_fewest_11 : decode (mB M_X7_fewest) 11 = .ok (.aload_n 0, 1) := by decide +kernel
theorem dX7_fewest_12 : decode (mB M_X7_fewest) 12 = .ok (.getfield 28, 3) := by decide +kernel
theorem dX7_fewest_15 : decode (mB M_X7_fewest) 15 = .ok (.invokevirtual 273, 3) := by decide +kernel
theorem dX7_fewest_18 : decode (mB M_X7_fewest) 18 = .ok (.aload_n 0, 1) := by decide +kernel
theorem dX7_fewest_19 : decode (mB M_X7_fewest) 19 = .ok (.getfield 28, 3) := by decide +kernel
theorem dX7_fewest_22 : decode (mB M_X7_fewest) 22 = .ok (.iconst (-1), 1) := by decide +kernel
theorem dX7_fewest_23 : decode (mB M_X7_fewest) 23 = .ok (.invokevirtual 101, 3) := by decide +kernel
theorem dX7_fewest_26 : decode (mB M_X7_fewest) 26 = .ok (.ifCond .le 11, 3) := by decide +kernel
theorem dX7_fewest_29 : decode (mB M_X7_fewest) 29 = .ok (.aload_n 0, 1) := by decide +kernel
theorem dX7_fewest_30 : decode (mB M_X7_fewest) 30 = .ok (.getfield 28, 3) := by decide +kernel
theorem dX7_fewest_33 : decode (mB M_X7_fewest) 33 = .ok (.invokevirtual 231, 3) := by decide +kernel
theorem dX7_fewest_36 : decode (mB M_X7_fewest) 36 = .ok (.pop, 1) := by decide +kernel
theorem dX7_fewest_37 : decode (mB M_X7_fewest) 37 = .ok (.iconst 0, 1) := by decide +kernel
theorem dX7_fewest_38 : decode (mB M_X7_fewest) 38 = .ok (.istore_n 1, 1) := by decide +kernel
theorem dX7_fewest_39 : decode (mB M_X7_fewest) 39 = .ok (.iload_n 1, 1) := by decide +kernel
theorem dX7_fewest_40 : decode (mB M_X7_fewest) 40 = .ok (.iconst 5, 1) := by decide +kernel
theorem dX7_fewest_41 : decode (mB M_X7_fewest) 41 = .ok (.if_icmp .gt 29, 3) := by decide +kernel
theorem dX7_fewest_44 : decode (mB M_X7_fewest) 44 = .ok (.aload_n 0, 1) := by decide +kernel
theorem dX7_fewest_45 : decode (mB M_X7_fewest) 45 = .ok (.getfield 28, 3) := by decide +kernel
theorem dX7_fewest_48 : decode (mB M_X7_fewest) 48 = .ok (.invokevirtual 105, 3) := by decide +kernel
theorem dX7_fewest_51 : decode (mB M_X7_fewest) 51 = .ok (.iconst 1, 1) := by decide +kernel
theorem dX7_fewest_52 : decode (mB M_X7_fewest) 52 = .ok (.if_icmp .le 18, 3) := by decide +kernel
theorem dX7_fewest_55 : decode (mB M_X7_fewest) 55 = .ok (.aload_n 0, 1) := by decide +kernel
theorem dX7_fewest_56 : decode (mB M_X7_fewest) 56 = .ok (.getfield 28, 3) := by decide +kernel
theorem dX7_fewest_59 : decode (mB M_X7_fewest) 59 = .ok (.iconst 0, 1) := by decide +kernel
theorem dX7_fewest_60 : decode (mB M_X7_fewest) 60 = .ok (.invokevirtual 242, 3) := by decide +kernel
theorem dX7_fewest_63 : decode (mB M_X7_fewest) 63 = .ok (.pop, 1) := by decide +kernel
theorem dX7_fewest_64 : decode (mB M_X7_fewest) 64 = .ok (.iinc 1 1, 3) := by decide +kernel
theorem dX7_fewest_67 : decode (mB M_X7_fewest) 67 = .ok (.goto (-28), 3) := by decide +kernel
theorem dX7_fewest_70 : decode (mB M_X7_fewest) 70 = .ok (.aload_n 0, 1) := by decide +kernel
theorem dX7_fewest_71 : decode (mB M_X7_fewest) 71 = .ok (.getfield 28, 3) := by decide +kernel
theorem dX7_fewest_74 : decode (mB M_X7_fewest) 74 = .ok (.invokevirtual 111, 3) := by decide +kernel
theorem dX7_fewest_77 : decode (mB M_X7_fewest) 77 = .ok (.ireturn, 1) := by decide +kernel
def b_X7_fewest_70 (v0 : Nat) (h : HP) : Option (Int32 × HP) :=
  (gR 7 2 h v0).bind fun x1 => (f_X3_size h x1).bind fun y2 => some (y2, h)
def c_X7_fewest_39 (v0 : Nat) (k39 : HP → Int32 → Option (Int32 × HP)) (h : HP) (v1 : Int32) : Option (Int32 × HP) :=
  if 5 < v1 then b_X7_fewest_70 v0 h else (gR 7 2 h v0).bind fun x2 => (f_X3_runs h x2).bind fun y3 => if y3 ≤ 1 then b_X7_fewest_70 v0 h else (gR 7 2 h v0).bind fun x5 => (f_X3_mergeRuns h x5 0).bind fun y6 => k39 y6.2 (v1 + 1)
def b_X7_fewest_39 (v0 : Nat) : Nat → HP → Int32 → Option (Int32 × HP)
  | 0, _, _ => none
  | n + 1, h, v1 => c_X7_fewest_39 v0 (b_X7_fewest_39 v0 n) h v1
def b_X7_fewest_0 (v0 : Nat) (h : HP) : Option (Int32 × HP) :=
  (gR 7 2 h v0).bind fun x1 => (gR 7 1 h v0).bind fun x2 => (f_X3_become h x1 x2).bind fun y3 => (gR 7 2 y3 v0).bind fun x4 => (f_X3_dropAllEyes y3 x4).bind fun y5 => (gR 7 2 y5 v0).bind fun x6 => (f_X3_sizeOf y5 x6 (-1)).bind fun y7 => if y7 ≤ 0 then b_X7_fewest_39 v0 FU y5 0 else (gR 7 2 y5 v0).bind fun x9 => (f_X3_flushMemory y5 x9).bind fun y10 => b_X7_fewest_39 v0 FU y10.2 0
def f_X7_fewest (h : HP) (v0 : Nat) : Option (Int32 × HP) := (kO 7 h v0).bind fun _ => b_X7_fewest_0 v0 h
theorem w_X7_fewest_70 {l : Launch} {X : SCR} {Q : PST} {bc bs : Nat} {res : Int32 × HP} {h : HP} (hQ : ∀ sz', Q (.inl (some (.int res.1))) res.2 sz') {v0 : Nat} {sz : Nat} (hf : b_X7_fewest_70 v0 h  = some res) : SP l X M_X7_fewest 70 [(0, .ref v0)] [] h sz bc bs Q := by
  rw [b_X7_fewest_70] at hf
  refine sp_aload_n (pc := 70) dX7_fewest_70 0 rfl ?_
  obtain ⟨x1, ex1, hf⟩ := ob hf
  refine sp_gR (pc := 71) fl_RX7_28 dX7_fewest_71 ex1 ?_
  obtain ⟨y2, ey2, hf⟩ := ob hf
  obtain ⟨fsy2, hoy2⟩ := o_X3_size ey2
  refine sp_callVi (pc := 74) (z := M_X3_size) (As := []) (b := x1) (bc2 := bc) (bs2 := bs) (m_X3_size (Q := _) (fun sz => ⟨y2, rfl, ?_⟩) ey2) rfl dX7_fewest_74 hoy2 rfl rfl ck_X7_fewest_111 (Nat.le_of_ble_eq_true rfl) rfl rfl rfl
  obtain rfl := Option.some.inj hf
  exact sp_ireturn (pc := 77) dX7_fewest_77 rfl rfl (hQ _)

theorem wc_X7_fewest_39 {l : Launch} {X : SCR} {Q : PST} {bc bs : Nat} {res : Int32 × HP} (hQ : ∀ sz', Q (.inl (some (.int res.1))) res.2 sz') {v0 : Nat} {k39 : HP → Int32 → Option (Int32 × HP)} (hk39 : ∀ (h : HP) (v1 : Int32) (sz : Nat), k39 h v1 = some res → SP l X M_X7_fewest 39 [(0, .ref v0), (1, .int v1)] [] h sz bc bs Q) {h : HP} {v1 : Int32} {sz : Nat} (hf : c_X7_fewest_39 v0 k39 h v1 = some res) : SP l X M_X7_fewest 39 [(0, .ref v0), (1, .int v1)] [] h sz bc bs Q := by
  rw [c_X7_fewest_39] at hf
  refine sp_iload_n (pc := 39) dX7_fewest_39 1 rfl ?_
  refine sp_iconst (pc := 40) (v := 5) dX7_fewest_40 (by decide) ?_
  refine sp_icmp_gt (pc := 41) (tgt := 70) dX7_fewest_41 (by decide) (fun c1 => ?_) (fun c1 => ?_)
  · rw [if_pos c1] at hf
    exact sp_sub [0] rfl (w_X7_fewest_70 hQ hf)
  · rw [if_neg c1] at hf
    refine sp_aload_n (pc := 44) dX7_fewest_44 0 rfl ?_
    obtain ⟨x2, ex2, hf⟩ := ob hf
    refine sp_gR (pc := 45) fl_RX7_28 dX7_fewest_45 ex2 ?_
    obtain ⟨y3, ey3, hf⟩ := ob hf
    obtain ⟨fsy3, hoy3⟩ := o_X3_runs ey3
    refine sp_callVi (pc := 48) (z := M_X3_runs) (As := []) (b := x2) (bc2 := bc) (bs2 := bs) (m_X3_runs (Q := _) (fun sz => ⟨y3, rfl, ?_⟩) ey3) rfl dX7_fewest_48 hoy3 rfl rfl ck_X7_fewest_105 (Nat.le_of_ble_eq_true rfl) rfl rfl rfl
    refine sp_iconst (pc := 51) (v := 1) dX7_fewest_51 (by decide) ?_
    refine sp_icmp_le (pc := 52) (tgt := 70) dX7_fewest_52 (by decide) (fun c4 => ?_) (fun c4 => ?_)
    · rw [if_pos c4] at hf
      exact sp_sub [0] rfl (w_X7_fewest_70 hQ hf)
    · rw [if_neg c4] at hf
      refine sp_aload_n (pc := 55) dX7_fewest_55 0 rfl ?_
      obtain ⟨x5, ex5, hf⟩ := ob hf
      refine sp_gR (pc := 56) fl_RX7_28 dX7_fewest_56 ex5 ?_
      refine sp_iconst (pc := 59) (v := 0) dX7_fewest_59 (by decide) ?_
      obtain ⟨y6, ey6, hf⟩ := ob hf
      obtain ⟨fsy6, hoy6⟩ := o_X3_mergeRuns ey6
      refine sp_callVi (pc := 60) (z := M_X3_mergeRuns) (As := [.int 0]) (b := x5) (bc2 := bc) (bs2 := bs) (m_X3_mergeRuns (Q := _) (fun sz => ⟨y6.1, rfl, ?_⟩) ey6) rfl dX7_fewest_60 hoy6 rfl rfl ck_X7_fewest_242 (Nat.le_of_ble_eq_true rfl) rfl rfl rfl
      refine sp_pop (pc := 63) dX7_fewest_63 rfl ?_
      refine sp_iinc (pc := 64) (v := v1 + 1) (lv' := [(1, .int (v1 + 1)), (0, .ref v0)]) dX7_fewest_64 1 rfl rfl (by decide) rfl ?_
      refine sp_goto (pc := 67) (tgt := 39) dX7_fewest_67 (by decide) ?_
      exact sp_sub [1, 0] rfl (hk39 _ _ _ hf)

theorem w_X7_fewest_39 {l : Launch} {X : SCR} {Q : PST} {bc bs : Nat} {res : Int32 × HP} (hQ : ∀ sz', Q (.inl (some (.int res.1))) res.2 sz') {v0 : Nat} : ∀ (n : Nat) {h : HP} {v1 : Int32} {sz : Nat}, b_X7_fewest_39 v0 n h v1 = some res → SP l X M_X7_fewest 39 [(0, .ref v0), (1, .int v1)] [] h sz bc bs Q := by
  intro n
  induction n with
  | zero =>
    intro h v1 sz hf
    rw [b_X7_fewest_39] at hf
    cases hf
  | succ n ih =>
    intro h v1 sz hf
    rw [b_X7_fewest_39] at hf
    exact wc_X7_fewest_39 hQ (fun h v1 sz hf => ih hf) hf

theorem w_X7_fewest_0 {l : Launch} {X : SCR} {Q : PST} {bc bs : Nat} {res : Int32 × HP} {h : HP} (hQ : ∀ sz', Q (.inl (some (.int res.1))) res.2 sz') {v0 : Nat} {sz : Nat} (hf : b_X7_fewest_0 v0 h  = some res) : SP l X M_X7_fewest 0 [(0, .ref v0)] [] h sz bc bs Q := by
  rw [b_X7_fewest_0] at hf
  refine sp_aload_n (pc := 0) dX7_fewest_0 0 rfl ?_
  obtain ⟨x1, ex1, hf⟩ := ob hf
  refine sp_gR (pc := 1) fl_RX7_28 dX7_fewest_1 ex1 ?_
  refine sp_aload_n (pc := 4) dX7_fewest_4 0 rfl ?_
  obtain ⟨x2, ex2, hf⟩ := ob hf
  refine sp_gR (pc := 5) fl_RX7_24 dX7_fewest_5 ex2 ?_
  obtain ⟨y3, ey3, hf⟩ := ob hf
  obtain ⟨fsy3, hoy3⟩ := o_X3_become ey3
  refine sp_callVv (pc := 8) (z := M_X3_become) (As := [.ref x2]) (b := x1) (bc2 := bc) (bs2 := bs) (m_X3_become (Q := _) (fun sz => ⟨(), rfl, ?_⟩) ey3) rfl dX7_fewest_8 hoy3 rfl rfl ck_X7_fewest_270 (Nat.le_of_ble_eq_true rfl) rfl rfl rfl
  refine sp_aload_n (pc := 11) dX7_fewest_11 0 rfl ?_
  obtain ⟨x4, ex4, hf⟩ := ob hf
  refine sp_gR (pc := 12) fl_RX7_28 dX7_fewest_12 ex4 ?_
  obtain ⟨y5, ey5, hf⟩ := ob hf
  obtain ⟨fsy5, hoy5⟩ := o_X3_dropAllEyes ey5
  refine sp_callVv (pc := 15) (z := M_X3_dropAllEyes) (As := []) (b := x4) (bc2 := bc) (bs2 := bs) (m_X3_dropAllEyes (Q := _) (fun sz => ⟨(), rfl, ?_⟩) ey5) rfl dX7_fewest_15 hoy5 rfl rfl ck_X7_fewest_273 (Nat.le_of_ble_eq_true rfl) rfl rfl rfl
  refine sp_aload_n (pc := 18) dX7_fewest_18 0 rfl ?_
  obtain ⟨x6, ex6, hf⟩ := ob hf
  refine sp_gR (pc := 19) fl_RX7_28 dX7_fewest_19 ex6 ?_
  refine sp_iconst (pc := 22) (v := (-1)) dX7_fewest_22 (by decide) ?_
  obtain ⟨y7, ey7, hf⟩ := ob hf
  obtain ⟨fsy7, hoy7⟩ := o_X3_sizeOf ey7
  refine sp_callVi (pc := 23) (z := M_X3_sizeOf) (As := [.int (-1)]) (b := x6) (bc2 := bc) (bs2 := bs) (m_X3_sizeOf (Q := _) (fun sz => ⟨y7, rfl, ?_⟩) ey7) rfl dX7_fewest_23 hoy7 rfl rfl ck_X7_fewest_101 (Nat.le_of_ble_eq_true rfl) rfl rfl rfl
  refine sp_if_le (pc := 26) (tgt := 37) dX7_fewest_26 (by decide) (fun c8 => ?_) (fun c8 => ?_)
  · rw [if_pos c8] at hf
    refine sp_iconst (pc := 37) (v := 0) dX7_fewest_37 (by decide) ?_
    refine sp_istore_n (pc := 38) (lv' := [(1, .int 0), (0, .ref v0)]) dX7_fewest_38 (by decide) rfl ?_
    exact sp_sub [1, 0] rfl (w_X7_fewest_39 hQ FU hf)
  · rw [if_neg c8] at hf
    refine sp_aload_n (pc := 29) dX7_fewest_29 0 rfl ?_
    obtain ⟨x9, ex9, hf⟩ := ob hf
    refine sp_gR (pc := 30) fl_RX7_28 dX7_fewest_30 ex9 ?_
    obtain ⟨y10, ey10, hf⟩ := ob hf
    obtain ⟨fsy10, hoy10⟩ := o_X3_flushMemory ey10
    refine sp_callVi (pc := 33) (z := M_X3_flushMemory) (As := []) (b := x9) (bc2 := bc) (bs2 := bs) (m_X3_flushMemory (Q := _) (fun sz => ⟨y10.1, rfl, ?_⟩) ey10) rfl dX7_fewest_33 hoy10 rfl rfl ck_X7_fewest_231 (Nat.le_of_ble_eq_true rfl) rfl rfl rfl
    refine sp_pop (pc := 36) dX7_fewest_36 rfl ?_
    refine sp_iconst (pc := 37) (v := 0) dX7_fewest_37 (by decide) ?_
    refine sp_istore_n (pc := 38) (lv' := [(1, .int 0), (0, .ref v0)]) dX7_fewest_38 (by decide) rfl ?_
    exact sp_sub [1, 0] rfl (w_X7_fewest_39 hQ FU hf)

theorem o_X7_fewest {h : HP} {v0 : Nat} {res : Int32 × HP} (hf : f_X7_fewest h v0 = some res) : ∃ fs, h v0 = some (.inr (7, fs)) := by
  obtain ⟨u, eu, -⟩ := ob hf
  exact kO_spec eu

theorem m_X7_fewest {l : Launch} {Q : PST} {h : HP} {v0 : Nat} {sz : Nat} {res : Int32 × HP} (hQ : ∀ sz', Q (.inl (some (.int res.1))) res.2 sz') (hf : f_X7_fewest h v0 = some res) : MM l M_X7_fewest [.ref v0] h sz Q := by
  obtain ⟨u, eu, hf⟩ := ob hf
  exact MM_of wok_X7_fewest (by decide +kernel) (Nat.le_of_ble_eq_true rfl) ((w_X7_fewest_0 hQ hf))

