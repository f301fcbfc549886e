theorem dX3_limitOf_0 : decode (mB M_X3_limitOf) 0 = .ok (.aload_n 0, 1) := by decide +kernel
theorem dX3_limitOf_1 : decode (mB M_X3_limitOf) 1 = .ok (.iload_n 1, 1) := by decide +kernel
theorem dX3_limitOf_2 : decode (mB M_X3_limitOf) 2 = .ok (.invokevirtual 89, 3) := by decide +kernel
theorem dX3_limitOf_5 : decode (mB M_X3_limitOf) 5 = .ok (.ifCond .eq 12, 3) := by decide +kernel
theorem dX3_limitOf_8 : decode (mB M_X3_limitOf) 8 = .ok (.aload_n 0, 1) := by decide +kernel
theorem dX3_limitOf_9 : decode (mB M_X3_limitOf) 9 = .ok (.getfield 15, 3) := by decide +kernel
theorem dX3_limitOf_12 : decode (mB M_X3_limitOf) 12 = .ok (.iload_n 1, 1) := by decide +kernel
theorem dX3_limitOf_13 : decode (mB M_X3_limitOf) 13 = .ok (.iaload, 1) := by decide +kernel
theorem dX3_limitOf_14 : decode (mB M_X3_limitOf) 14 = .ok (.goto 7, 3) := by decide +kernel
theorem dX3_limitOf_17 : decode (mB M_X3_limitOf) 17 = .ok (.aload_n 0, 1) := by decide +kernel
theorem dX3_limitOf_18 : decode (mB M_X3_limitOf) 18 = .ok (.getfield 41, 3) := by decide +kernel
theorem dX3_limitOf_21 : decode (mB M_X3_limitOf) 21 = .ok (.ireturn, 1) := by decide +kernel
def b_X3_limitOf_0 (h : HP) (v0 : Nat) (v1 : Int32) : Option (Int32) :=
  (f_X3_isEye h v0 v1).bind fun y1 => if y1 = 0 then (gI 3 6 h v0).bind fun x3 => some (x3) else (gR 3 3 h v0).bind fun x4 => (aI h x4 v1).bind fun x5 => some (x5)
def f_X3_limitOf (h : HP) (v0 : Nat) (v1 : Int32) : Option (Int32) := (kO 3 h v0).bind fun _ => b_X3_limitOf_0 h v0 v1
theorem w_X3_limitOf_0 {l : Launch} {X : SCR} {Q : PST} {bc bs : Nat} {res : Int32} {h : HP} (hQ : ∀ sz', Q (.inl (some (.int res))) h sz') {v0 : Nat} {v1 : Int32} {sz : Nat} (hf : b_X3_limitOf_0 h v0 v1  = some res) : SP l X M_X3_limitOf 0 [(0, .ref v0), (1, .int v1)] [] h sz bc bs Q := by
  rw [b_X3_limitOf_0] at hf
  refine sp_aload_n (pc := 0) dX3_limitOf_0 0 rfl ?_
  refine sp_iload_n (pc := 1) dX3_limitOf_1 1 rfl ?_
  obtain ⟨y1, ey1, hf⟩ := ob hf
  obtain ⟨fsy1, hoy1⟩ := o_X3_isEye ey1
  refine sp_callVi (pc := 2) (z := M_X3_isEye) (As := [.int v1]) (b := v0) (bc2 := bc) (bs2 := bs) (m_X3_isEye (Q := _) (fun sz => ⟨y1, rfl, ?_⟩) ey1) rfl dX3_limitOf_2 hoy1 rfl rfl ck_X3_limitOf_89 (Nat.le_of_ble_eq_true rfl) rfl rfl rfl
  refine sp_if_eq (pc := 5) (tgt := 17) dX3_limitOf_5 (by decide) (fun c2 => ?_) (fun c2 => ?_)
  · rw [if_pos c2] at hf
    refine sp_aload_n (pc := 17) dX3_limitOf_17 0 rfl ?_
    obtain ⟨x3, ex3, hf⟩ := ob hf
    refine sp_gI (pc := 18) fl_RX3_41 dX3_limitOf_18 ex3 ?_
    obtain rfl := Option.some.inj hf
    exact sp_ireturn (pc := 21) dX3_limitOf_21 rfl rfl (hQ _)
  · rw [if_neg c2] at hf
    refine sp_aload_n (pc := 8) dX3_limitOf_8 0 rfl ?_
    obtain ⟨x4, ex4, hf⟩ := ob hf
    refine sp_gR (pc := 9) fl_RX3_15 dX3_limitOf_9 ex4 ?_
    refine sp_iload_n (pc := 12) dX3_limitOf_12 1 rfl ?_
    obtain ⟨x5, ex5, hf⟩ := ob hf
    refine sp_aI (pc := 13) dX3_limitOf_13 ex5 ?_
    refine sp_goto (pc := 14) (tgt := 21) dX3_limitOf_14 (by decide) ?_
    obtain rfl := Option.some.inj hf
    exact sp_ireturn (pc := 21) dX3_limitOf_21 rfl rfl (hQ _)

theorem o_X3_limitOf {h : HP} {v0 : Nat} {v1 : Int32} {res : Int32} (hf : f_X3_limitOf h v0 v1 = some res) : ∃ fs, h v0 = some (.inr (3, fs)) := by
  obtain ⟨u, eu, -⟩ := ob hf
  exact kO_spec eu

theorem m_X3_limitOf {l : Launch} {Q : PST} {h : HP} {v0 : Nat} {v1 : Int32} {sz : Nat} {res : Int32} (hQ : ∀ sz', Q (.inl (some (.int res))) h sz') (hf : f_X3_limitOf h v0 v1 = some res) : MM l M_X3_limitOf [.ref v0, .int v1] h sz Q := by
  obtain ⟨u, eu, hf⟩ := ob hf
  exact MM_of wok_X3_limitOf (by decide +kernel) (Nat.le_of_ble_eq_true rfl) ((w_X3_limitOf_0 hQ hf))

theorem dX6_concerns_0 : decode (mB M_X6_concerns) 0 = .ok (.iload_n 1, 1) := by decide +kernel
theorem dX6_concerns_1 : decode (mB M_X6_concerns) 1 = .ok (.ifCond .lt 35, 3) := by decide +kernel
theorem dX6_concerns_4 : decode (mB M_X6_concerns) 4 = .ok (.iload_n 1, 1) := by decide +kernel
theorem dX6_concerns_5 : decode (mB M_X6_concerns) 5 = .ok (.aload_n 0, 1) := by decide +kernel
theorem dX6_concerns_6 : decode (mB M_X6_concerns) 6 = .ok (.getfield 30, 3) := by decide +kernel
theorem dX6_concerns_9 : decode (mB M_X6_concerns) 9 = .ok (.if_icmp .ge 27, 3) := by decide +kernel
theorem dX6_concerns_12 : decode (mB M_X6_concerns) 12 = .ok (.aload_n 0, 1) := by decide +kernel
theorem dX6_concerns_13 : decode (mB M_X6_concerns) 13 = .ok (.getfield 21, 3) := by decide +kernel
theorem dX6_concerns_16 : decode (mB M_X6_concerns) 16 = .ok (.iload_n 1, 1) := by decide +kernel
theorem dX6_concerns_17 : decode (mB M_X6_concerns) 17 = .ok (.iaload, 1) := by decide +kernel
theorem dX6_concerns_18 : decode (mB M_X6_concerns) 18 = .ok (.iload_n 2, 1) := by decide +kernel
theorem dX6_concerns_19 : decode (mB M_X6_concerns) 19 = .ok (.if_icmp .gt 17, 3) := by decide +kernel
theorem dX6_concerns_22 : decode (mB M_X6_concerns) 22 = .ok (.iload_n 2, 1) := by decide +kernel
theorem dX6_concerns_23 : decode (mB M_X6_concerns) 23 = .ok (.aload_n 0, 1) := by decide +kernel
theorem dX6_concerns_24 : decode (mB M_X6_concerns) 24 = .ok (.getfield 24, 3) := by decide +kernel
theorem dX6_concerns_27 : decode (mB M_X6_concerns) 27 = .ok (.iload_n 1, 1) := by decide +kernel
theorem dX6_concerns_28 : decode (mB M_X6_concerns) 28 = .ok (.iaload, 1) := by decide +kernel
theorem dX6_concerns_29 : decode (mB M_X6_concerns) 29 = .ok (.if_icmp .gt 7, 3) := by decide +kernel
theorem dX6_concerns_32 : decode (mB M_X6_concerns) 32 = .ok (.iconst 1, 1) := by decide +kernel
theorem dX6_concerns_33 : decode (mB M_X6_concerns) 33 = .ok (.goto 4, 3) := by decide +kernel
theorem dX6_concerns_36 : decode (mB M_X6_concerns) 36 = .ok (.iconst 0, 1) := by decide +kernel
theorem dX6_concerns_37 : decode (mB M_X6_concerns) 37 = .ok (.ireturn, 1) := by decide +kernel
def b_X6_concerns_0 (h : HP) (v0 : Nat) (v1 : Int32) (v2 : Int32) : Option (Int32) :=
  if v1 < 0 then some (0) else (gI 6 4 h v0).bind fun x2 => if x2 ≤ v1 then some (0) else (gR 6 1 h v0).bind fun x4 => (aI h x4 v1).bind fun x5 => if v2 < x5 then some (0) else (gR 6 2 h v0).bind fun x7 => (aI h x7 v1).bind fun x8 => if x8 < v2 then some (0) else some (1)
def f_X6_concerns (h : HP) (v0 : Nat) (v1 : Int32) (v2 : Int32) : Option (Int32) := (kO 6 h v0).bind fun _ => b_X6_concerns_0 h v0 v1 v2
theorem w_X6_concerns_0 {l : Launch} {X : SCR} {Q : PST} {bc bs : Nat} {res : Int32} {h : HP} (hQ : ∀ sz', Q (.inl (some (.int res))) h sz') {v0 : Nat} {v1 : Int32} {v2 : Int32} {sz : Nat} (hf : b_X6_concerns_0 h v0 v1 v2  = some res) : SP l X M_X6_concerns 0 [(0, .ref v0), (1, .int v1), (2, .int v2)] [] h sz bc bs Q := by
  rw [b_X6_concerns_0] at hf
  refine sp_iload_n (pc := 0) dX6_concerns_0 1 rfl ?_
  refine sp_if_lt (pc := 1) (tgt := 36) dX6_concerns_1 (by decide) (fun c1 => ?_) (fun c1 => ?_)
  · rw [if_pos c1] at hf
    refine sp_iconst (pc := 36) (v := 0) dX6_concerns_36 (by decide) ?_
    obtain rfl := Option.some.inj hf
    exact sp_ireturn (pc := 37) dX6_concerns_37 rfl rfl (hQ _)
  · rw [if_neg c1] at hf
    refine sp_iload_n (pc := 4) dX6_concerns_4 1 rfl ?_
    refine sp_aload_n (pc := 5) dX6_concerns_5 0 rfl ?_
    obtain ⟨x2, ex2, hf⟩ := ob hf
    refine sp_gI (pc := 6) fl_RX6_30 dX6_concerns_6 ex2 ?_
    refine sp_icmp_ge (pc := 9) (tgt := 36) dX6_concerns_9 (by decide) (fun c3 => ?_) (fun c3 => ?_)
    · rw [if_pos c3] at hf
      refine sp_iconst (pc := 36) (v := 0) dX6_concerns_36 (by decide) ?_
      obtain rfl := Option.some.inj hf
      exact sp_ireturn (pc := 37) dX6_concerns_37 rfl rfl (hQ _)
    · rw [if_neg c3] at hf
      refine sp_aload_n (pc := 12) dX6_concerns_12 0 rfl ?_
      obtain ⟨x4, ex4, hf⟩ := ob hf
      refine sp_gR (pc := 13) fl_RX6_21 dX6_concerns_13 ex4 ?_
      refine sp_iload_n (pc := 16) dX6_concerns_16 1 rfl ?_
      obtain ⟨x5, ex5, hf⟩ := ob hf
      refine sp_aI (pc := 17) dX6_concerns_17 ex5 ?_
      refine sp_iload_n (pc := 18) dX6_concerns_18 2 rfl ?_
      refine sp_icmp_gt (pc := 19) (tgt := 36) dX6_concerns_19 (by decide) (fun c6 => ?_) (fun c6 => ?_)
      · rw [if_pos c6] at hf
        refine sp_iconst (pc := 36) (v := 0) dX6_concerns_36 (by decide) ?_
        obtain rfl := Option.some.inj hf
        exact sp_ireturn (pc := 37) dX6_concerns_37 rfl rfl (hQ _)
      · rw [if_neg c6] at hf
        refine sp_iload_n (pc := 22) dX6_concerns_22 2 rfl ?_
        refine sp_aload_n (pc := 23) dX6_concerns_23 0 rfl ?_
        obtain ⟨x7, ex7, hf⟩ := ob hf
        refine sp_gR (pc := 24) fl_RX6_24 dX6_concerns_24 ex7 ?_
        refine sp_iload_n (pc := 27) dX6_concerns_27 1 rfl ?_
        obtain ⟨x8, ex8, hf⟩ := ob hf
        refine sp_aI (pc := 28) dX6_concerns_28 ex8 ?_
        refine sp_icmp_gt (pc := 29) (tgt := 36) dX6_concerns_29 (by decide) (fun c9 => ?_) (fun c9 => ?_)
        · rw [if_pos c9] at hf
          refine sp_iconst (pc := 36) (v := 0) dX6_concerns_36 (by decide) ?_
          obtain rfl := Option.some.inj hf
          exact sp_ireturn (pc := 37) dX6_concerns_37 rfl rfl (hQ _)
        · rw [if_neg c9] at hf
          refine sp_iconst (pc := 32) (v := 1) dX6_concerns_32 (by decide) ?_
          refine sp_goto (pc := 33) (tgt := 37) dX6_concerns_33 (by decide) ?_
          obtain rfl := Option.some.inj hf
          exact sp_ireturn (pc := 37) dX6_concerns_37 rfl rfl (hQ _)

theorem o_X6_concerns {h : HP} {v0 : Nat} {v1 : Int32} {v2 : Int32} {res : Int32} (hf : f_X6_concerns h v0 v1 v2 = some res) : ∃ fs, h v0 = some (.inr (6, fs)) := by
  obtain ⟨u, eu, -⟩ := ob hf
  exact kO_spec eu

theorem m_X6_concerns {l : Launch} {Q : PST} {h : HP} {v0 : Nat} {v1 : Int32} {v2 : Int32} {sz : Nat} {res : Int32} (hQ : ∀ sz', Q (.inl (some (.int res))) h sz') (hf : f_X6_concerns h v0 v1 v2 = some res) : MM l M_X6_concerns [.ref v0, .int v1, .int v2] h sz Q := by
  obtain ⟨u, eu, hf⟩ := ob hf
  exact MM_of wok_X6_concerns (by decide +kernel) (Nat.le_of_ble_eq_true rfl) ((w_X6_concerns_0 hQ hf))

theorem dX3_newestFor_0 : decode (mB M_X3_newestFor) 0 = .ok (.aload_n 0, 1) := by decide +kernel
theorem dX3_newestFor_1 : decode (mB M_X3_newestFor) 1 = .ok (.getfield 27, 3) := by decide +kernel
theorem dX3_newestFor_4 : decode (mB M_X3_newestFor) 4 = .ok (.invokevirtual 47, 3) := by decide +kernel
theorem dX3_newestFor_7 : decode (mB M_X3_newestFor) 7 = .ok (.iconst 1, 1) := by decide +kernel
theorem dX3_newestFor_8 : decode (mB M_X3_newestFor) 8 = .ok (.isub, 1) := by decide +kernel
theorem dX3_newestFor_9 : decode (mB M_X3_newestFor) 9 = .ok (.istore_n 3, 1) := by decide +kernel
theorem dX3_newestFor_10 : decode (mB M_X3_newestFor) 10 = .ok (.iload_n 3, 1) := by decide +kernel
theorem dX3_newestFor_11 : decode (mB M_X3_newestFor) 11 = .ok (.ifCond .lt 35, 3) := by decide +kernel
theorem dX3_newestFor_14 : decode (mB M_X3_newestFor) 14 = .ok (.aload_n 0, 1) := by decide +kernel
theorem dX3_newestFor_15 : decode (mB M_X3_newestFor) 15 = .ok (.getfield 27, 3) := by decide +kernel
theorem dX3_newestFor_18 : decode (mB M_X3_newestFor) 18 = .ok (.iload_n 3, 1) := by decide +kernel
theorem dX3_newestFor_19 : decode (mB M_X3_newestFor) 19 = .ok (.invokevirtual 92, 3) := by decide +kernel
theorem dX3_newestFor_22 : decode (mB M_X3_newestFor) 22 = .ok (.iload_n 2, 1) := by decide +kernel
theorem dX3_newestFor_23 : decode (mB M_X3_newestFor) 23 = .ok (.if_icmp .gt 17, 3) := by decide +kernel
theorem dX3_newestFor_26 : decode (mB M_X3_newestFor) 26 = .ok (.aload_n 0, 1) := by decide +kernel
theorem dX3_newestFor_27 : decode (mB M_X3_newestFor) 27 = .ok (.getfield 27, 3) := by decide +kernel
theorem dX3_newestFor_30 : decode (mB M_X3_newestFor) 30 = .ok (.iload_n 3, 1) := by decide +kernel
theorem dX3_newestFor_31 : decode (mB M_X3_newestFor) 31 = .ok (.iload_n 1, 1) := by decide +kernel
theorem dX3_newestFor_32 : decode (mB M_X3_newestFor) 32 = .ok (.invokevirtual 95, 3) := by decide +kernel
theorem dX3_newestFor_35 : decode (mB M_X3_newestFor) 35 = .ok (.ifCond .eq 5, 3) := by decide +kernel
theorem dX3_newestFor_38 : decode (mB M_X3_newestFor) 38 = .ok (.iload_n 3, 1) := by decide +kernel
theorem dX3_newestFor_39 : decode (mB M_X3_newestFor) 39 = .ok (.ireturn, 1) := by decide +kernel
theorem dX3_newestFor_40 : decode (mB M_X3_newestFor) 40 = .ok (.iinc 3 (-1), 3) := by decide +kernel
theorem dX3_newestFor_43 : decode (mB M_X3_newestFor) 43 = .ok (.goto (-33), 3) := by decide +kernel
theorem dX3_newestFor_46 : decode (mB M_X3_newestFor) 46 = .ok (.iconst (-1), 1) := by decide +kernel
theorem dX3_newestFor_47 : decode (mB M_X3_newestFor) 47 = .ok (.ireturn, 1) := by decide +kernel
def c_X3_newestFor_10 (h : HP) (v0 : Nat) (v1 : Int32) (v2 : Int32) (k10 : Int32 → Option (Int32)) (v3 : Int32) : Option (Int32) :=
  if v3 < 0 then some ((-1)) else (gR 3 1 h v0).bind fun x2 => (f_X6_numberAt h x2 v3).bind fun y3 => if v2 < y3 then k10 (v3 + (-1)) else (gR 3 1 h v0).bind fun x5 => (f_X6_concerns h x5 v3 v1).bind fun y6 => if y6 = 0 then k10 (v3 + (-1)) else some (v3)
def b_X3_newestFor_10 (h : HP) (v0 : Nat) (v1 : Int32) (v2 : Int32) : Nat → Int32 → Option (Int32)
  | 0, _ => none
  | n + 1, v3 => c_X3_newestFor_10 h v0 v1 v2 (b_X3_newestFor_10 h v0 v1 v2 n) v3
def b_X3_newestFor_0 (h : HP) (v0 : Nat) (v1 : Int32) (v2 : Int32) : Option (Int32) :=
  (gR 3 1 h v0).bind fun x1 => (f_X6_size h x1).bind fun y2 => b_X3_newestFor_10 h v0 v1 v2 FU (y2 - 1)
def f_X3_newestFor (h : HP) (v0 : Nat) (v1 : Int32) (v2 : Int32) : Option (Int32) := (kO 3 h v0).bind fun _ => b_X3_newestFor_0 h v0 v1 v2
theorem wc_X3_newestFor_10 {l : Launch} {X : SCR} {Q : PST} {bc bs : Nat} {res : Int32} {h : HP} (hQ : ∀ sz', Q (.inl (some (.int res))) h sz') {v0 : Nat} {v1 : Int32} {v2 : Int32} {k10 : Int32 → Option (Int32)} (hk10 : ∀ (v3 : Int32) (sz : Nat), k10 v3 = some res → SP l X M_X3_newestFor 10 [(0, .ref v0), (1, .int v1), (2, .int v2), (3, .int v3)] [] h sz bc bs Q) {v3 : Int32} {sz : Nat} (hf : c_X3_newestFor_10 h v0 v1 v2 k10 v3 = some res) : SP l X M_X3_newestFor 10 [(0, .ref v0), (1, .int v1), (2, .int v2), (3, .int v3)] [] h sz bc bs Q := by
  rw [c_X3_newestFor_10] at hf
  refine sp_iload_n (pc := 10) dX3_newestFor_10 3 rfl ?_
  refine sp_if_lt (pc := 11) (tgt := 46) dX3_newestFor_11 (by decide) (fun c1 => ?_) (fun c1 => ?_)
  · rw [if_pos c1] at hf
    refine sp_iconst (pc := 46) (v := (-1)) dX3_newestFor_46 (by decide) ?_
    obtain rfl := Option.some.inj hf
    exact sp_ireturn (pc := 47) dX3_newestFor_47 rfl rfl (hQ _)
  · rw [if_neg c1] at hf
    refine sp_aload_n (pc := 14) dX3_newestFor_14 0 rfl ?_
    obtain ⟨x2, ex2, hf⟩ := ob hf
    refine sp_gR (pc := 15) fl_RX3_27 dX3_newestFor_15 ex2 ?_
    refine sp_iload_n (pc := 18) dX3_newestFor_18 3 rfl ?_
    obtain ⟨y3, ey3, hf⟩ := ob hf
    obtain ⟨fsy3, hoy3⟩ := o_X6_numberAt ey3
    refine sp_callVi (pc := 19) (z := M_X6_numberAt) (As := [.int v3]) (b := x2) (bc2 := bc) (bs2 := bs) (m_X6_numberAt (Q := _) (fun sz => ⟨y3, rfl, ?_⟩) ey3) rfl dX3_newestFor_19 hoy3 rfl rfl ck_X3_newestFor_92 (Nat.le_of_ble_eq_true rfl) rfl rfl rfl
    refine sp_iload_n (pc := 22) dX3_newestFor_22 2 rfl ?_
    refine sp_icmp_gt (pc := 23) (tgt := 40) dX3_newestFor_23 (by decide) (fun c4 => ?_) (fun c4 => ?_)
    · rw [if_pos c4] at hf
      refine sp_iinc (pc := 40) (v := v3 + (-1)) (lv' := [(3, .int (v3 + (-1))), (0, .ref v0), (1, .int v1), (2, .int v2)]) dX3_newestFor_40 3 rfl rfl (by decide) rfl ?_
      refine sp_goto (pc := 43) (tgt := 10) dX3_newestFor_43 (by decide) ?_
      exact sp_sub [1, 2, 3, 0] rfl (hk10 _ _ hf)
    · rw [if_neg c4] at hf
      refine sp_aload_n (pc := 26) dX3_newestFor_26 0 rfl ?_
      obtain ⟨x5, ex5, hf⟩ := ob hf
      refine sp_gR (pc := 27) fl_RX3_27 dX3_newestFor_27 ex5 ?_
      refine sp_iload_n (pc := 30) dX3_newestFor_30 3 rfl ?_
      refine sp_iload_n (pc := 31) dX3_newestFor_31 1 rfl ?_
      obtain ⟨y6, ey6, hf⟩ := ob hf
      obtain ⟨fsy6, hoy6⟩ := o_X6_concerns ey6
      refine sp_callVi (pc := 32) (z := M_X6_concerns) (As := [.int v3, .int v1]) (b := x5) (bc2 := bc) (bs2 := bs) (m_X6_concerns (Q := _) (fun sz => ⟨y6, rfl, ?_⟩) ey6) rfl dX3_newestFor_32 hoy6 rfl rfl ck_X3_newestFor_95 (Nat.le_of_ble_eq_true rfl) rfl rfl rfl
      refine sp_if_eq (pc := 35) (tgt := 40) dX3_newestFor_35 (by decide) (fun c7 => ?_) (fun c7 => ?_)
      · rw [if_pos c7] at hf
        refine sp_iinc (pc := 40) (v := v3 + (-1)) (lv' := [(3, .int (v3 + (-1))), (0, .ref v0), (1, .int v1), (2, .int v2)]) dX3_newestFor_40 3 rfl rfl (by decide) rfl ?_
        refine sp_goto (pc := 43) (tgt := 10) dX3_newestFor_43 (by decide) ?_
        exact sp_sub [1, 2, 3, 0] rfl (hk10 _ _ hf)
      · rw [if_neg c7] at hf
        refine sp_iload_n (pc := 38) dX3_newestFor_38 3 rfl ?_
        obtain rfl := Option.some.inj hf
        exact sp_ireturn (pc := 39) dX3_newestFor_39 rfl rfl (hQ _)

theorem w_X3_newestFor_10 {l : Launch} {X : SCR} {Q : PST} {bc bs : Nat} {res : Int32} {h : HP} (hQ : ∀ sz', Q (.inl (some (.int res))) h sz') {v0 : Nat} {v1 : Int32} {v2 : Int32} : ∀ (n : Nat) {v3 : Int32} {sz : Nat}, b_X3_newestFor_10 h v0 v1 v2 n v3 = some res → SP l X M_X3_newestFor 10 [(0, .ref v0), (1, .int v1), (2, .int v2), (3, .int v3)] [] h sz bc bs Q := by
  intro n
  induction n with
  | zero =>
    intro v3 sz hf
    rw [b_X3_newestFor_10] at hf
    cases hf
  | succ n ih =>
    intro v3 sz hf
    rw [b_X3_newestFor_10] at hf
    exact wc_X3_newestFor_10 hQ (fun v3 sz hf => ih hf) hf

theorem w_X3_newestFor_0 {l : Launch} {X : SCR} {Q : PST} {bc bs : Nat} {res : Int32} {h : HP} (hQ : ∀ sz', Q (.inl (some (.int res))) h sz') {v0 : Nat} {v1 : Int32} {v2 : Int32} {sz : Nat} (hf : b_X3_newestFor_0 h v0 v1 v2  = some res) : SP l X M_X3_newestFor 0 [(0, .ref v0), (1, .int v1), (2, .int v2)] [] h sz bc bs Q := by
  rw [b_X3_newestFor_0] at hf
  refine sp_aload_n (pc := 0) dX3_newestFor_0 0 rfl ?_
  obtain ⟨x1, ex1, hf⟩ := ob hf
  refine sp_gR (pc := 1) fl_RX3_27 dX3_newestFor_1 ex1 ?_
  obtain ⟨y2, ey2, hf⟩ := ob hf
  obtain ⟨fsy2, hoy2⟩ := o_X6_size ey2
  refine sp_callVi (pc := 4) (z := M_X6_size) (As := []) (b := x1) (bc2 := bc) (bs2 := bs) (m_X6_size (Q := _) (fun sz => ⟨y2, rfl, ?_⟩) ey2) rfl dX3_newestFor_4 hoy2 rfl rfl ck_X3_newestFor_47 (Nat.le_of_ble_eq_true rfl) rfl rfl rfl
  refine sp_iconst (pc := 7) (v := 1) dX3_newestFor_7 (by decide) ?_
  refine sp_isub (pc := 8) dX3_newestFor_8 ?_
  refine sp_istore_n (pc := 9) (lv' := [(3, .int (y2 - 1)), (0, .ref v0), (1, .int v1), (2, .int v2)]) dX3_newestFor_9 (by decide) rfl ?_
  exact sp_sub [1, 2, 3, 0] rfl (w_X3_newestFor_10 hQ FU hf)

theorem o_X3_newestFor {h : HP} {v0 : Nat} {v1 : Int32} {v2 : Int32} {res : Int32} (hf : f_X3_newestFor h v0 v1 v2 = some res) : ∃ fs, h v0 = some (.inr (3, fs)) := by
  obtain ⟨u, eu, -⟩ := ob hf
  exact kO_spec eu

theorem m_X3_newestFor {l : Launch} {Q : PST} {h : HP} {v0 : Nat} {v1 : Int32} {v2 : Int32} {sz : Nat} {res : Int32} (hQ : ∀ sz', Q (.inl (some (.int res))) h sz') (hf : f_X3_newestFor h v0 v1 v2 = some res) : MM l M_X3_newestFor [.ref v0, .int v1, .int v2] h sz Q := by
  obtain ⟨u, eu, hf⟩ := ob hf
  exact MM_of wok_X3_newestFor (by decide +kernel) (Nat.le_of_ble_eq_true rfl) ((w_X3_newestFor_0 hQ hf))

theorem dX3_valueFor_0 : decode (mB M_X3_valueFor) 0 = .ok (.aload_n 0, 1) := by decide +kernel
theorem dX3_valueFor_1 : decode (mB M_X3_valueFor) 1 = .ok (.getfield 27, 3) := by decide +kernel
theorem dX3_valueFor_4 : decode (mB M_X3_valueFor) 4 = .ok (.aload_n 0, 1) := by decide +kernel
theorem dX3_valueFor_5 : decode (mB M_X3_valueFor) 5 = .ok (.iload_n 1, 1) := by decide +kernel
theorem dX3_valueFor_6 : decode (mB M_X3_valueFor) 6 = .ok (.iload_n 2, 1) := by decide +kernel
theorem dX3_valueFor_7 : decode (mB M_X3_valueFor) 7 = .ok (.invokevirtual 99, 3) := by decide +kernel
theorem dX3_valueFor_10 : decode (mB M_X3_valueFor) 10 = .ok (.invokevirtual 103, 3) := by decide +kernel
theorem dX3_valueFor_13 : decode (mB M_X3_valueFor) 13 = .ok (.ireturn, 1) := by decide +kernel
def b_X3_valueFor_0 (h : HP) (v0 : Nat) (v1 : Int32) (v2 : Int32) : Option (Int32) :=
  (gR 3 1 h v0).bind fun x1 => (f_X3_newestFor h v0 v1 v2).bind fun y2 => (f_X6_valueAt h x1 y2).bind fun y3 => some (y3)
def f_X3_valueFor (h : HP) (v0 : Nat) (v1 : Int32) (v2 : Int32) : Option (Int32) := (kO 3 h v0).bind fun _ => b_X3_valueFor_0 h v0 v1 v2
theorem w_X3_valueFor_0 {l : Launch} {X : SCR} {Q : PST} {bc bs : Nat} {res : Int32} {h : HP} (hQ : ∀ sz', Q (.inl (some (.int res))) h sz') {v0 : Nat} {v1 : Int32} {v2 : Int32} {sz : Nat} (hf : b_X3_valueFor_0 h v0 v1 v2  = some res) : SP l X M_X3_valueFor 0 [(0, .ref v0), (1, .int v1), (2, .int v2)] [] h sz bc bs Q := by
  rw [b_X3_valueFor_0] at hf
  refine sp_aload_n (pc := 0) dX3_valueFor_0 0 rfl ?_
  obtain ⟨x1, ex1, hf⟩ := ob hf
  refine sp_gR (pc := 1) fl_RX3_27 dX3_valueFor_1 ex1 ?_
  refine sp_aload_n (pc := 4) dX3_valueFor_4 0 rfl ?_
  refine sp_iload_n (pc := 5) dX3_valueFor_5 1 rfl ?_
  refine sp_iload_n (pc := 6) dX3_valueFor_6 2 rfl ?_
  obtain ⟨y2, ey2, hf⟩ := ob hf
  obtain ⟨fsy2, hoy2⟩ := o_X3_newestFor ey2
  refine sp_callVi (pc := 7) (z := M_X3_newestFor) (As := [.int v1, .int v2]) (b := v0) (bc2 := bc) (bs2 := bs) (m_X3_newestFor (Q := _) (fun sz => ⟨y2, rfl, ?_⟩) ey2) rfl dX3_valueFor_7 hoy2 rfl rfl ck_X3_valueFor_99 (Nat.le_of_ble_eq_true rfl) rfl rfl rfl
  obtain ⟨y3, ey3, hf⟩ := ob hf
  obtain ⟨fsy3, hoy3⟩ := o_X6_valueAt ey3
  refine sp_callVi (pc := 10) (z := M_X6_valueAt) (As := [.int y2]) (b := x1) (bc2 := bc) (bs2 := bs) (m_X6_valueAt (Q := _) (fun sz => ⟨y3, rfl, ?_⟩) ey3) rfl dX3_valueFor_10 hoy3 rfl rfl ck_X3_valueFor_103 (Nat.le_of_ble_eq_true rfl) rfl rfl rfl
  obtain rfl := Option.some.inj hf
  exact sp_ireturn (pc := 13) dX3_valueFor_13 rfl rfl (hQ _)

theorem o_X3_valueFor {h : HP} {v0 : Nat} {v1 : Int32} {v2 : Int32} {res : Int32} (hf : f_X3_valueFor h v0 v1 v2 = some res) : ∃ fs, h v0 = some (.inr (3, fs)) := by
  obtain ⟨u, eu, -⟩ := ob hf
  exact kO_spec eu

theorem m_X3_valueFor {l : Launch} {Q : PST} {h : HP} {v0 : Nat} {v1 : Int32} {v2 : Int32} {sz : Nat} {res : Int32} (hQ : ∀ sz', Q (.inl (some (.int res))) h sz') (hf : f_X3_valueFor h v0 v1 v2 = some res) : MM l M_X3_valueFor [.ref v0, .int v1, .int v2] h sz Q := by
  obtain ⟨u, eu, hf⟩ := ob hf
  exact MM_of wok_X3_valueFor (by decide +kernel) (Nat.le_of_ble_eq_true rfl) ((w_X3_valueFor_0 hQ hf))

theorem dX3_isSeen_0 : decode (mB M_X3_isSeen) 0 = .ok (.aload_n 0, 1) := by decide +kernel
theorem dX3_isSeen_1 : decode (mB M_X3_isSeen) 1 = .ok (.getfield 27, 3) := by decide +kernel
theorem dX3_isSeen_4 : decode (mB M_X3_isSeen) 4 = .ok (.iload_n 1, 1) := by decide +kernel
theorem dX3_isSeen_5 : decode (mB M_X3_isSeen) 5 = .ok (.invokevirtual 78, 3) := by decide +kernel
theorem dX3_isSeen_8 : decode (mB M_X3_isSeen) 8 = .ok (.istore_n 2, 1) := by decide +kernel
theorem dX3_isSeen_9 : decode (mB M_X3_isSeen) 9 = .ok (.iconst (-1), 1) := by decide +kernel
theorem dX3_isSeen_10 : decode (mB M_X3_isSeen) 10 = .ok (.istore_n 3, 1) := by decide +kernel
theorem dX3_isSeen_11 : decode (mB M_X3_isSeen) 11 = .ok (.iload_n 3, 1) := by decide +kernel
theorem dX3_isSeen_12 : decode (mB M_X3_isSeen) 12 = .ok (.aload_n 0, 1) := by decide +kernel
theorem dX3_isSeen_13 : decode (mB M_X3_isSeen) 13 = .ok (.getfield 38, 3) := by decide +kernel
theorem dX3_isSeen_16 : decode (mB M_X3_isSeen) 16 = .ok (.if_icmp .ge 25, 3) := by decide +kernel
theorem dX3_isSeen_19 : decode (mB M_X3_isSeen) 19 = .ok (.aload_n 0, 1) := by decide +kernel
theorem dX3_isSeen_20 : decode (mB M_X3_isSeen) 20 = .ok (.iload_n 2, 1) := by decide +kernel
theorem dX3_isSeen_21 : decode (mB M_X3_isSeen) 21 = .ok (.aload_n 0, 1) := by decide +kernel
theorem dX3_isSeen_22 : decode (mB M_X3_isSeen) 22 = .ok (.iload_n 3, 1) := by decide +kernel
theorem dX3_isSeen_23 : decode (mB M_X3_isSeen) 23 = .ok (.invokevirtual 106, 3) := by decide +kernel
theorem dX3_isSeen_26 : decode (mB M_X3_isSeen) 26 = .ok (.invokevirtual 99, 3) := by decide +kernel
theorem dX3_isSeen_29 : decode (mB M_X3_isSeen) 29 = .ok (.iload_n 1, 1) := by decide +kernel
theorem dX3_isSeen_30 : decode (mB M_X3_isSeen) 30 = .ok (.if_icmp .ne 5, 3) := by decide +kernel
theorem dX3_isSeen_33 : decode (mB M_X3_isSeen) 33 = .ok (.iconst 1, 1) := by decide +kernel
theorem dX3_isSeen_34 : decode (mB M_X3_isSeen) 34 = .ok (.ireturn, 1) := by decide +kernel
theorem dX3_isSeen_35 : decode (mB M_X3_isSeen) 35 = .ok (.iinc 3 1, 3) := by decide +kernel
theorem dX3_isSeen_38 : decode (mB M_X3_isSeen) 38 = .ok (.goto (-27), 3) := by decide +kernel
theorem dX3_isSeen_41 : decode (mB M_X3_isSeen) 41 = .ok (.iconst 0, 1) := by decide +kernel
theorem dX3_isSeen_42 : decode (mB M_X3_isSeen) 42 = .ok (.ireturn, 1) := by decide +kernel
def c_X3_isSeen_11 (h : HP) (v0 : Nat) (v1 : Int32) (k11 : Int32 → Int32 → Option (Int32)) (v2 : Int32) (v3 : Int32) : Option (Int32) :=
  (gI 3 5 h v0).bind fun x1 => if x1 ≤ v3 then some (0) else (f_X3_limitOf h v0 v3).bind fun y3 => (f_X3_newestFor h v0 v2 y3).bind fun y4 => if y4 = v1 then some (1) else k11 v2 (v3 + 1)
def b_X3_isSeen_11 (h : HP) (v0 : Nat) (v1 : Int32) : Nat → Int32 → Int32 → Option (Int32)
  | 0, _, _ => none
  | n + 1, v2, v3 => c_X3_isSeen_11 h v0 v1 (b_X3_isSeen_11 h v0 v1 n) v2 v3
def b_X3_isSeen_0 (h : HP) (v0 : Nat) (v1 : Int32) : Option (Int32) :=
  (gR 3 1 h v0).bind fun x1 => (f_X6_firstAt h x1 v1).bind fun y2 => b_X3_isSeen_11 h v0 v1 FU y2 ((-1))
def f_X3_isSeen (h : HP) (v0 : Nat) (v1 : Int32) : Option (Int32) := (kO 3 h v0).bind fun _ => b_X3_isSeen_0 h v0 v1
theorem wc_X3_isSeen_11 {l : Launch} {X : SCR} {Q : PST} {bc bs : Nat} {res : Int32} {h : HP} (hQ : ∀ sz', Q (.inl (some (.int res))) h sz') {v0 : Nat} {v1 : Int32} {k11 : Int32 → Int32 → Option (Int32)} (hk11 : ∀ (v2 : Int32) (v3 : Int32) (sz : Nat), k11 v2 v3 = some res → SP l X M_X3_isSeen 11 [(0, .ref v0), (1, .int v1), (2, .int v2), (3, .int v3)] [] h sz bc bs Q) {v2 : Int32} {v3 : Int32} {sz : Nat} (hf : c_X3_isSeen_11 h v0 v1 k11 v2 v3 = some res) : SP l X M_X3_isSeen 11 [(0, .ref v0), (1, .int v1), (2, .int v2), (3, .int v3)] [] h sz bc bs Q := by
  rw [c_X3_isSeen_11] at hf
  refine sp_iload_n (pc := 11) dX3_isSeen_11 3 rfl ?_
  refine sp_aload_n (pc := 12) dX3_isSeen_12 0 rfl ?_
  obtain ⟨x1, ex1, hf⟩ := ob hf
  refine sp_gI (pc := 13) fl_RX3_38 dX3_isSeen_13 ex1 ?_
  refine sp_icmp_ge (pc := 16) (tgt := 41) dX3_isSeen_16 (by decide) (fun c2 => ?_) (fun c2 => ?_)
  · rw [if_pos c2] at hf
    refine sp_iconst (pc := 41) (v := 0) dX3_isSeen_41 (by decide) ?_
    obtain rfl := Option.some.inj hf
    exact sp_ireturn (pc := 42) dX3_isSeen_42 rfl rfl (hQ _)
  · rw [if_neg c2] at hf
    refine sp_aload_n (pc := 19) dX3_isSeen_19 0 rfl ?_
    refine sp_iload_n (pc := 20) dX3_isSeen_20 2 rfl ?_
    refine sp_aload_n (pc := 21) dX3_isSeen_21 0 rfl ?_
    refine sp_iload_n (pc := 22) dX3_isSeen_22 3 rfl ?_
    obtain ⟨y3, ey3, hf⟩ := ob hf
    obtain ⟨fsy3, hoy3⟩ := o_X3_limitOf ey3
    refine sp_callVi (pc := 23) (z := M_X3_limitOf) (As := [.int v3]) (b := v0) (bc2 := bc) (bs2 := bs) (m_X3_limitOf (Q := _) (fun sz => ⟨y3, rfl, ?_⟩) ey3) rfl dX3_isSeen_23 hoy3 rfl rfl ck_X3_isSeen_106 (Nat.le_of_ble_eq_true rfl) rfl rfl rfl
    obtain ⟨y4, ey4, hf⟩ := ob hf
    obtain ⟨fsy4, hoy4⟩ := o_X3_newestFor ey4
    refine sp_callVi (pc := 26) (z := M_X3_newestFor) (As := [.int v2, .int y3]) (b := v0) (bc2 := bc) (bs2 := bs) (m_X3_newestFor (Q := _) (fun sz => ⟨y4, rfl, ?_⟩) ey4) rfl dX3_isSeen_26 hoy4 rfl rfl ck_X3_isSeen_99 (Nat.le_of_ble_eq_true rfl) rfl rfl rfl
    refine sp_iload_n (pc := 29) dX3_isSeen_29 1 rfl ?_
    refine sp_icmp_ne (pc := 30) (tgt := 35) dX3_isSeen_30 (by decide) (fun c5 => ?_) (fun c5 => ?_)
    · rw [if_neg c5] at hf
      refine sp_iinc (pc := 35) (v := v3 + 1) (lv' := [(3, .int (v3 + 1)), (0, .ref v0), (1, .int v1), (2, .int v2)]) dX3_isSeen_35 3 rfl rfl (by decide) rfl ?_
      refine sp_goto (pc := 38) (tgt := 11) dX3_isSeen_38 (by decide) ?_
      exact sp_sub [1, 2, 3, 0] rfl (hk11 _ _ _ hf)
    · rw [if_pos c5] at hf
      refine sp_iconst (pc := 33) (v := 1) dX3_isSeen_33 (by decide) ?_
      obtain rfl := Option.some.inj hf
      exact sp_ireturn (pc := 34) dX3_isSeen_34 rfl rfl (hQ _)

theorem w_X3_isSeen_11 {l : Launch} {X : SCR} {Q : PST} {bc bs : Nat} {res : Int32} {h : HP} (hQ : ∀ sz', Q (.inl (some (.int res))) h sz') {v0 : Nat} {v1 : Int32} : ∀ (n : Nat) {v2 : Int32} {v3 : Int32} {sz : Nat}, b_X3_isSeen_11 h v0 v1 n v2 v3 = some res → SP l X M_X3_isSeen 11 [(0, .ref v0), (1, .int v1), (2, .int v2), (3, .int v3)] [] h sz bc bs Q := by
  intro n
  induction n with
  | zero =>
    intro v2 v3 sz hf
    rw [b_X3_isSeen_11] at hf
    cases hf
  | succ n ih =>
    intro v2 v3 sz hf
    rw [b_X3_isSeen_11] at hf
    exact wc_X3_isSeen_11 hQ (fun v2 v3 sz hf => ih hf) hf

theorem w_X3_isSeen_0 {l : Launch} {X : SCR} {Q : PST} {bc bs : Nat} {res : Int32} {h : HP} (hQ : ∀ sz', Q (.inl (some (.int res))) h sz') {v0 : Nat} {v1 : Int32} {sz : Nat} (hf : b_X3_isSeen_0 h v0 v1  = some res) : SP l X M_X3_isSeen 0 [(0, .ref v0), (1, .int v1)] [] h sz bc bs Q := by
  rw [b_X3_isSeen_0] at hf
  refine sp_aload_n (pc := 0) dX3_isSeen_0 0 rfl ?_
  obtain ⟨x1, ex1, hf⟩ := ob hf
  refine sp_gR (pc := 1) fl_RX3_27 dX3_isSeen_1 ex1 ?_
  refine sp_iload_n (pc := 4) dX3_isSeen_4 1 rfl ?_
  obtain ⟨y2, ey2, hf⟩ := ob hf
  obtain ⟨fsy2, hoy2⟩ := o_X6_firstAt ey2
  refine sp_callVi (pc := 5) (z := M_X6_firstAt) (As := [.int v1]) (b := x1) (bc2 := bc) (bs2 := bs) (m_X6_firstAt (Q := _) (fun sz => ⟨y2, rfl, ?_⟩) ey2) rfl dX3_isSeen_5 hoy2 rfl rfl ck_X3_isSeen_78 (Nat.le_of_ble_eq_true rfl) rfl rfl rfl
  refine sp_istore_n (pc := 8) (lv' := [(2, .int y2), (0, .ref v0), (1, .int v1)]) dX3_isSeen_8 (by decide) rfl ?_
  refine sp_iconst (pc := 9) (v := (-1)) dX3_isSeen_9 (by decide) ?_
  refine sp_istore_n (pc := 10) (lv' := [(3, .int (-1)), (2, .int y2), (0, .ref v0), (1, .int v1)]) dX3_isSeen_10 (by decide) rfl ?_
  exact sp_sub [2, 3, 1, 0] rfl (w_X3_isSeen_11 hQ FU hf)

theorem o_X3_isSeen {h : HP} {v0 : Nat} {v1 : Int32} {res : Int32} (hf : f_X3_isSeen h v0 v1 = some res) : ∃ fs, h v0 = some (.inr (3, fs)) := by
  obtain ⟨u, eu, -⟩ := ob hf
  exact kO_spec eu

theorem m_X3_isSeen {l : Launch} {Q : PST} {h : HP} {v0 : Nat} {v1 : Int32} {sz : Nat} {res : Int32} (hQ : ∀ sz', Q (.inl (some (.int res))) h sz') (hf : f_X3_isSeen h v0 v1 = some res) : MM l M_X3_isSeen [.ref v0, .int v1] h sz Q := by
  obtain ⟨u, eu, hf⟩ := ob hf
  exact MM_of wok_X3_isSeen (by decide +kernel) (Nat.le_of_ble_eq_true rfl) ((w_X3_isSeen_0 hQ hf))

theorem dX3_canOpen_0 : decode (mB M_X3_canOpen) 0 = .ok (.aload_n 0, 1) := by decide +kernel
theorem dX3_canOpen_1 : decode (mB M_X3_canOpen) 1 = .ok (.getfield 38, 3) := by decide +kernel
theorem dX3_canOpen_4 : decode (mB M_X3_canOpen) 4 = .ok (.iconst 2, 1) := by decide +kernel
theorem dX3_canOpen_5 : decode (mB M_X3_canOpen) 5 = .ok (.if_icmp .ge 7, 3) := by decide +kernel
theorem dX3_canOpen_8 : decode (mB M_X3_canOpen) 8 = .ok (.iconst 1, 1) := by decide +kernel
theorem dX3_canOpen_9 : decode (mB M_X3_canOpen) 9 = .ok (.goto 4, 3) := by decide +kernel
theorem dX3_canOpen_12 : decode (mB M_X3_canOpen) 12 = .ok (.iconst 0, 1) := by decide +kernel
theorem dX3_canOpen_13 : decode (mB M_X3_canOpen) 13 = .ok (.ireturn, 1) := by decide +kernel
def b_X3_canOpen_0 (h : HP) (v0 : Nat) : Option (Int32) :=
  (gI 3 5 h v0).bind fun x1 => if 2 ≤ x1 then some (0) else some (1)
def f_X3_canOpen (h : HP) (v0 : Nat) : Option (Int32) := (kO 3 h v0).bind fun _ => b_X3_canOpen_0 h v0
theorem w_X3_canOpen_0 {l : Launch} {X : SCR} {Q : PST} {bc bs : Nat} {res : Int32} {h : HP} (hQ : ∀ sz', Q (.inl (some (.int res))) h sz') {v0 : Nat} {sz : Nat} (hf : b_X3_canOpen_0 h v0  = some res) : SP l X M_X3_canOpen 0 [(0, .ref v0)] [] h sz bc bs Q := by
  rw [b_X3_canOpen_0] at hf
  refine sp_aload_n (pc := 0) dX3_canOpen_0 0 rfl ?_
  obtain ⟨x1, ex1, hf⟩ := ob hf
  refine sp_gI (pc := 1) fl_RX3_38 dX3_canOpen_1 ex1 ?_
  refine sp_iconst (pc := 4) (v := 2) dX3_canOpen_4 (by decide) ?_
  refine sp_icmp_ge (pc := 5) (tgt := 12) dX3_canOpen_5 (by decide) (fun c2 => ?_) (fun c2 => ?_)
  · rw [if_pos c2] at hf
    refine sp_iconst (pc := 12) (v := 0) dX3_canOpen_12 (by decide) ?_
    obtain rfl := Option.some.inj hf
    exact sp_ireturn (pc := 13) dX3_canOpen_13 rfl rfl (hQ _)
  · rw [if_neg c2] at hf
    refine sp_iconst (pc := 8) (v := 1) dX3_canOpen_8 (by decide) ?_
    refine sp_goto (pc := 9) (tgt := 13) dX3_canOpen_9 (by decide) ?_
    obtain rfl := Option.some.inj hf
    exact sp_ireturn (pc := 13) dX3_canOpen_13 rfl rfl (hQ _)

theorem o_X3_canOpen {h : HP} {v0 : Nat} {res : Int32} (hf : f_X3_canOpen h v0 = some res) : ∃ fs, h v0 = some (.inr (3, fs)) := by
  obtain ⟨u, eu, -⟩ := ob hf
  exact kO_spec eu

theorem m_X3_canOpen {l : Launch} {Q : PST} {h : HP} {v0 : Nat} {sz : Nat} {res : Int32} (hQ : ∀ sz', Q (.inl (some (.int res))) h sz') (hf : f_X3_canOpen h v0 = some res) : MM l M_X3_canOpen [.ref v0] h sz Q := by
  obtain ⟨u, eu, hf⟩ := ob hf
  exact MM_of wok_X3_canOpen (by decide +kernel) (Nat.le_of_ble_eq_true rfl) ((w_X3_canOpen_0 hQ hf))

theorem dX3_canFlush_0 : decode (mB M_X3_canFlush) 0 = .ok (.aload_n 0, 1) := by decide +kernel
theorem dX3_canFlush_1 : decode (mB M_X3_canFlush) 1 = .ok (.iconst (-1), 1) := by decide +kernel
theorem dX3_canFlush_2 : decode (mB M_X3_canFlush) 2 = .ok (.invokevirtual 109, 3) := by decide +kernel
theorem dX3_canFlush_5 : decode (mB M_X3_canFlush) 5 = .ok (.ifCond .eq 11, 3) := by decide +kernel
theorem dX3_canFlush_8 : decode (mB M_X3_canFlush) 8 = .ok (.aload_n 0, 1) := by decide +kernel
theorem dX3_canFlush_9 : decode (mB M_X3_canFlush) 9 = .ok (.getfield 34, 3) := by decide +kernel
theorem dX3_canFlush_12 : decode (mB M_X3_canFlush) 12 = .ok (.iconst 5, 1) := by decide +kernel
theorem dX3_canFlush_13 : decode (mB M_X3_canFlush) 13 = .ok (.if_icmp .lt 5, 3) := by decide +kernel
theorem dX3_canFlush_16 : decode (mB M_X3_canFlush) 16 = .ok (.iconst 0, 1) := by decide +kernel
theorem dX3_canFlush_17 : decode (mB M_X3_canFlush) 17 = .ok (.ireturn, 1) := by decide +kernel
theorem dX3_canFlush_18 : decode (mB M_X3_canFlush) 18 = .ok (.aload_n 0, 1) := by decide +kernel
theorem dX3_canFlush_19 : decode (mB M_X3_canFlush) 19 = .ok (.iconst (-1), 1) := by decide +kernel
theorem dX3_canFlush_20 : decode (mB M_X3_canFlush) 20 = .ok (.invokevirtual 69, 3) := by decide +kernel
theorem dX3_canFlush_23 : decode (mB M_X3_canFlush) 23 = .ok (.aload_n 0, 1) := by decide +kernel
theorem dX3_canFlush_24 : decode (mB M_X3_canFlush) 24 = .ok (.getfield 18, 3) := by decide +kernel
theorem dX3_canFlush_27 : decode (mB M_X3_canFlush) 27 = .ok (.aload_n 0, 1) := by decide +kernel
theorem dX3_canFlush_28 : decode (mB M_X3_canFlush) 28 = .ok (.iconst (-1), 1) := by decide +kernel
theorem dX3_canFlush_29 : decode (mB M_X3_canFlush) 29 = .ok (.iconst (-1), 1) := by decide +kernel
theorem dX3_canFlush_30 : decode (mB M_X3_canFlush) 30 = .ok (.invokevirtual 112, 3) := by decide +kernel
theorem dX3_canFlush_33 : decode (mB M_X3_canFlush) 33 = .ok (.iadd, 1) := by decide +kernel
theorem dX3_canFlush_34 : decode (mB M_X3_canFlush) 34 = .ok (.bipush 48, 2) := by decide +kernel
theorem dX3_canFlush_36 : decode (mB M_X3_canFlush) 36 = .ok (.if_icmp .gt 7, 3) := by decide +kernel
theorem dX3_canFlush_39 : decode (mB M_X3_canFlush) 39 = .ok (.iconst 1, 1) := by decide +kernel
theorem dX3_canFlush_40 : decode (mB M_X3_canFlush) 40 = .ok (.goto 4, 3) := by decide +kernel
theorem dX3_canFlush_43 : decode (mB M_X3_canFlush) 43 = .ok (.iconst 0, 1) := by decide +kernel
theorem dX3_canFlush_44 : decode (mB M_X3_canFlush) 44 = .ok (.ireturn, 1) := by decide +kernel
def b_X3_canFlush_0 (v0 : Nat) (h : HP) : Option (Int32 × HP) :=
  (f_X3_sizeOf h v0 (-1)).bind fun y1 => if y1 = 0 then some (0, h) else (gI 3 4 h v0).bind fun x3 => if x3 < 5 then (f_X3_startOf h v0 (-1)).bind fun y5 => (gR 3 0 h v0).bind fun x6 => (f_X0_clean h x6 v0 (-1) (-1)).bind fun y7 => if 48 < (y5 + y7.1) then some (0, y7.2) else some (1, y7.2) else some (0, h)
def f_X3_canFlush (h : HP) (v0 : Nat) : Option (Int32 × HP) := (kO 3 h v0).bind fun _ => b_X3_canFlush_0 v0 h
theorem w_X3_canFlush_0 {l : Launch} {X : SCR} {Q : PST} {bc bs : Nat} {res : Int32 × HP} {h : HP} (hQ : ∀ sz', Q (.inl (some (.int res.1))) res.2 sz') {v0 : Nat} {sz : Nat} (hf : b_X3_canFlush_0 v0 h  = some res) : SP l X M_X3_canFlush 0 [(0, .ref v0)] [] h sz bc bs Q := by
  rw [b_X3_canFlush_0] at hf
  refine sp_aload_n (pc := 0) dX3_canFlush_0 0 rfl ?_
  refine sp_iconst (pc := 1) (v := (-1)) dX3_canFlush_1 (by decide) ?_
  obtain ⟨y1, ey1, hf⟩ := ob hf
  obtain ⟨fsy1, hoy1⟩ := o_X3_sizeOf ey1
  refine sp_callVi (pc := 2) (z := M_X3_sizeOf) (As := [.int (-1)]) (b := v0) (bc2 := bc) (bs2 := bs) (m_X3_sizeOf (Q := _) (fun sz => ⟨y1, rfl, ?_⟩) ey1) rfl dX3_canFlush_2 hoy1 rfl rfl ck_X3_canFlush_109 (Nat.le_of_ble_eq_true rfl) rfl rfl rfl
  refine sp_if_eq (pc := 5) (tgt := 16) dX3_canFlush_5 (by decide) (fun c2 => ?_) (fun c2 => ?_)
  · rw [if_pos c2] at hf
    refine sp_iconst (pc := 16) (v := 0) dX3_canFlush_16 (by decide) ?_
    obtain rfl := Option.some.inj hf
    exact sp_ireturn (pc := 17) dX3_canFlush_17 rfl rfl (hQ _)
  · rw [if_neg c2] at hf
    refine sp_aload_n (pc := 8) dX3_canFlush_8 0 rfl ?_
    obtain ⟨x3, ex3, hf⟩ := ob hf
    refine sp_gI (pc := 9) fl_RX3_34 dX3_canFlush_9 ex3 ?_
    refine sp_iconst (pc := 12) (v := 5) dX3_canFlush_12 (by decide) ?_
    refine sp_icmp_lt (pc := 13) (tgt := 18) dX3_canFlush_13 (by decide) (fun c4 => ?_) (fun c4 => ?_)
    · rw [if_pos c4] at hf
      refine sp_aload_n (pc := 18) dX3_canFlush_18 0 rfl ?_
      refine sp_iconst (pc := 19) (v := (-1)) dX3_canFlush_19 (by decide) ?_
      obtain ⟨y5, ey5, hf⟩ := ob hf
      obtain ⟨fsy5, hoy5⟩ := o_X3_startOf ey5
      refine sp_callVi (pc := 20) (z := M_X3_startOf) (As := [.int (-1)]) (b := v0) (bc2 := bc) (bs2 := bs) (m_X3_startOf (Q := _) (fun sz => ⟨y5, rfl, ?_⟩) ey5) rfl dX3_canFlush_20 hoy5 rfl rfl ck_X3_canFlush_69 (Nat.le_of_ble_eq_true rfl) rfl rfl rfl
      refine sp_aload_n (pc := 23) dX3_canFlush_23 0 rfl ?_
      obtain ⟨x6, ex6, hf⟩ := ob hf
      refine sp_gR (pc := 24) fl_RX3_18 dX3_canFlush_24 ex6 ?_
      refine sp_aload_n (pc := 27) dX3_canFlush_27 0 rfl ?_
      refine sp_iconst (pc := 28) (v := (-1)) dX3_canFlush_28 (by decide) ?_
      refine sp_iconst (pc := 29) (v := (-1)) dX3_canFlush_29 (by decide) ?_
      obtain ⟨y7, ey7, hf⟩ := ob hf
      obtain ⟨fsy7, hoy7⟩ := o_X0_clean ey7
      refine sp_callVi (pc := 30) (z := M_X0_clean) (As := [.ref v0, .int (-1), .int (-1)]) (b := x6) (bc2 := bc) (bs2 := bs) (m_X0_clean (Q := _) (fun sz => ⟨y7.1, rfl, ?_⟩) ey7) rfl dX3_canFlush_30 hoy7 rfl rfl ck_X3_canFlush_112 (Nat.le_of_ble_eq_true rfl) rfl rfl rfl
      refine sp_iadd (pc := 33) dX3_canFlush_33 ?_
      refine sp_bipush (pc := 34) (v := 48) dX3_canFlush_34 (by decide) ?_
      refine sp_icmp_gt (pc := 36) (tgt := 43) dX3_canFlush_36 (by decide) (fun c8 => ?_) (fun c8 => ?_)
      · rw [if_pos c8] at hf
        refine sp_iconst (pc := 43) (v := 0) dX3_canFlush_43 (by decide) ?_
        obtain rfl := Option.some.inj hf
        exact sp_ireturn (pc := 44) dX3_canFlush_44 rfl rfl (hQ _)
      · rw [if_neg c8] at hf
        refine sp_iconst (pc := 39) (v := 1) dX3_canFlush_39 (by decide) ?_
        refine sp_goto (pc := 40) (tgt := 44) dX3_canFlush_40 (by decide) ?_
        obtain rfl := Option.some.inj hf
        exact sp_ireturn (pc := 44) dX3_canFlush_44 rfl rfl (hQ _)
    · rw [if_neg c4] at hf
      refine sp_iconst (pc := 16) (v := 0) dX3_canFlush_16 (by decide) ?_
      obtain rfl := Option.some.inj hf
      exact sp_ireturn (pc := 17) dX3_canFlush_17 rfl rfl (hQ _)

theorem o_X3_canFlush {h : HP} {v0 : Nat} {res : Int32 × HP} (hf : f_X3_canFlush h v0 = some res) : ∃ fs, h v0 = some (.inr (3, fs)) := by
  obtain ⟨u, eu, -⟩ := ob hf
  exact kO_spec eu

theorem m_X3_canFlush {l : Launch} {Q : PST} {h : HP} {v0 : Nat} {sz : Nat} {res : Int32 × HP} (hQ : ∀ sz', Q (.inl (some (.int res.1))) res.2 sz') (hf : f_X3_canFlush h v0 = some res) : MM l M_X3_canFlush [.ref v0] h sz Q := by
  obtain ⟨u, eu, hf⟩ := ob hf
  exact MM_of wok_X3_canFlush (by decide +kernel) (Nat.le_of_ble_eq_true rfl) ((w_X3_canFlush_0 hQ hf))

theorem dX3_canMerge_0 : decode (mB M_X3_canMerge) 0 = .ok (.aload_n 0, 1) := by decide +kernel
theorem dX3_canMerge_1 : decode (mB M_X3_canMerge) 1 = .ok (.iload_n 1, 1) := by decide +kernel
theorem dX3_canMerge_2 : decode (mB M_X3_canMerge) 2 = .ok (.invokevirtual 61, 3) := by decide +kernel
theorem dX3_canMerge_5 : decode (mB M_X3_canMerge) 5 = .ok (.ifCond .eq 13, 3) := by decide +kernel
theorem dX3_canMerge_8 : decode (mB M_X3_canMerge) 8 = .ok (.aload_n 0, 1) := by decide +kernel
theorem dX3_canMerge_9 : decode (mB M_X3_canMerge) 9 = .ok (.iload_n 1, 1) := by decide +kernel
theorem dX3_canMerge_10 : decode (mB M_X3_canMerge) 10 = .ok (.iconst 1, 1) := by decide +kernel
theorem dX3_canMerge_11 : decode (mB M_X3_canMerge) 11 = .ok (.iadd, 1) := by decide +kernel
theorem dX3_canMerge_12 : decode (mB M_X3_canMerge) 12 = .ok (.invokevirtual 61, 3) := by decide +kernel
theorem dX3_canMerge_15 : decode (mB M_X3_canMerge) 15 = .ok (.ifCond .ne 5, 3) := by decide +kernel
theorem dX3_canMerge_18 : decode (mB M_X3_canMerge) 18 = .ok (.iconst 0, 1) := by decide +kernel
theorem dX3_canMerge_19 : decode (mB M_X3_canMerge) 19 = .ok (.ireturn, 1) := by decide +kernel
theorem dX3_canMerge_20 : decode (mB M_X3_canMerge) 20 = .ok (.aload_n 0, 1) := by decide +kernel
theorem dX3_canMerge_21 : decode (mB M_X3_canMerge) 21 = .ok (.getfield 27, 3) := by decide +kernel
theorem dX3_canMerge_24 : decode (mB M_X3_canMerge) 24 = .ok (.invokevirtual 47, 3) := by decide +kernel
theorem dX3_canMerge_27 : decode (mB M_X3_canMerge) 27 = .ok (.aload_n 0, 1) := by decide +kernel
theorem dX3_canMerge_28 : decode (mB M_X3_canMerge) 28 = .ok (.iload_n 1, 1) := by decide +kernel
theorem dX3_canMerge_29 : decode (mB M_X3_canMerge) 29 = .ok (.invokevirtual 109, 3) := by decide +kernel
theorem dX3_canMerge_32 : decode (mB M_X3_canMerge) 32 = .ok (.isub, 1) := by decide +kernel
theorem dX3_canMerge_33 : decode (mB M_X3_canMerge) 33 = .ok (.aload_n 0, 1) := by decide +kernel
theorem dX3_canMerge_34 : decode (mB M_X3_canMerge) 34 = .ok (.iload_n 1, 1) := by decide +kernel
theorem dX3_canMerge_35 : decode (mB M_X3_canMerge) 35 = .ok (.iconst 1, 1) := by decide +kernel
theorem dX3_canMerge_36 : decode (mB M_X3_canMerge) 36 = .ok (.iadd, 1) := by decide +kernel
theorem dX3_canMerge_37 : decode (mB M_X3_canMerge) 37 = .ok (.invokevirtual 109, 3) := by decide +kernel
theorem dX3_canMerge_40 : decode (mB M_X3_canMerge) 40 = .ok (.isub, 1) := by decide +kernel
theorem dX3_canMerge_41 : decode (mB M_X3_canMerge) 41 = .ok (.istore_n 2, 1) := by decide +kernel
theorem dX3_canMerge_42 : decode (mB M_X3_canMerge) 42 = .ok (.iload_n 2, 1) := by decide +kernel
theorem dX3_canMerge_43 : decode (mB M_X3_canMerge) 43 = .ok (.aload_n 0, 1) := by decide +kernel
theorem dX3_canMerge_44 : decode (mB M_X3_canMerge) 44 = .ok (.getfield 18, 3) := by decide +kernel
theorem dX3_canMerge_47 : decode (mB M_X3_canMerge) 47 = .ok (.aload_n 0, 1) := by decide +kernel
theorem dX3_canMerge_48 : decode (mB M_X3_canMerge) 48 = .ok (.iload_n 1, 1) := by decide +kernel
theorem dX3_canMerge_49 : decode (mB M_X3_canMerge) 49 = .ok (.iload_n 1, 1) := by decide +kernel
theorem dX3_canMerge_50 : decode (mB M_X3_canMerge) 50 = .ok (.iconst 1, 1) := by decide +kernel
theorem dX3_canMerge_51 : decode (mB M_X3_canMerge) 51 = .ok (.iadd, 1) := by decide +kernel
theorem dX3_canMerge_52 : decode (mB M_X3_canMerge) 52 = .ok (.invokevirtual 112, 3) := by decide +kernel
theorem dX3_canMerge_55 : decode (mB M_X3_canMerge) 55 = .ok (.iadd, 1) := by decide +kernel
theorem dX3_canMerge_56 : decode (mB M_X3_canMerge) 56 = .ok (.bipush 48, 2) := by decide +kernel
theorem dX3_canMerge_58 : decode (mB M_X3_canMerge) 58 = .ok (.if_icmp .gt 7, 3) := by decide +kernel
theorem dX3_canMerge_61 : decode (mB M_X3_canMerge) 61 = .ok (.iconst 1, 1) := by decide +kernel
theorem dX3_canMerge_62 : decode (mB M_X3_canMerge) 62 = .ok (.goto 4, 3) := by decide +kernel
theorem dX3_canMerge_65 : decode (mB M_X3_canMerge) 65 = .ok (.iconst 0, 1) := by decide +kernel
theorem dX3_canMerge_66 : decode (mB M_X3_canMerge) 66 = .ok (.ireturn, 1) := by decide +kernel
def b_X3_canMerge_0 (v0 : Nat) (v1 : Int32) (h : HP) : Option (Int32 × HP) :=
  (f_X3_isRun h v0 v1).bind fun y1 => if y1 = 0 then some (0, h) else (f_X3_isRun h v0 (v1 + 1)).bind fun y3 => if y3 = 0 then some (0, h) else (gR 3 1 h v0).bind fun x5 => (f_X6_size h x5).bind fun y6 => (f_X3_sizeOf h v0 v1).bind fun y7 => (f_X3_sizeOf h v0 (v1 + 1)).bind fun y8 => (gR 3 0 h v0).bind fun x9 => (f_X0_clean h x9 v0 v1 (v1 + 1)).bind fun y10 => if 48 < (((y6 - y7) - y8) + y10.1) then some (0, y10.2) else some (1, y10.2)
def f_X3_canMerge (h : HP) (v0 : Nat) (v1 : Int32) : Option (Int32 × HP) := (kO 3 h v0).bind fun _ => b_X3_canMerge_0 v0 v1 h
theorem w_X3_canMerge_0 {l : Launch} {X : SCR} {Q : PST} {bc bs : Nat} {res : Int32 × HP} {h : HP} (hQ : ∀ sz', Q (.inl (some (.int res.1))) res.2 sz') {v0 : Nat} {v1 : Int32} {sz : Nat} (hf : b_X3_canMerge_0 v0 v1 h  = some res) : SP l X M_X3_canMerge 0 [(0, .ref v0), (1, .int v1)] [] h sz bc bs Q := by
  rw [b_X3_canMerge_0] at hf
  refine sp_aload_n (pc := 0) dX3_canMerge_0 0 rfl ?_
  refine sp_iload_n (pc := 1) dX3_canMerge_1 1 rfl ?_
  obtain ⟨y1, ey1, hf⟩ := ob hf
  obtain ⟨fsy1, hoy1⟩ := o_X3_isRun ey1
  refine sp_callVi (pc := 2) (z := M_X3_isRun) (As := [.int v1]) (b := v0) (bc2 := bc) (bs2 := bs) (m_X3_isRun (Q := _) (fun sz => ⟨y1, rfl, ?_⟩) ey1) rfl dX3_canMerge_2 hoy1 rfl rfl ck_X3_canMerge_61 (Nat.le_of_ble_eq_true rfl) rfl rfl rfl
  refine sp_if_eq (pc := 5) (tgt := 18) dX3_canMerge_5 (by decide) (fun c2 => ?_) (fun c2 => ?_)
  · rw [if_pos c2] at hf
    refine sp_iconst (pc := 18) (v := 0) dX3_canMerge_18 (by decide) ?_
    obtain rfl := Option.some.inj hf
    exact sp_ireturn (pc := 19) dX3_canMerge_19 rfl rfl (hQ _)
  · rw [if_neg c2] at hf
    refine sp_aload_n (pc := 8) dX3_canMerge_8 0 rfl ?_
    refine sp_iload_n (pc := 9) dX3_canMerge_9 1 rfl ?_
    refine sp_iconst (pc := 10) (v := 1) dX3_canMerge_10 (by decide) ?_
    refine sp_iadd (pc := 11) dX3_canMerge_11 ?_
    obtain ⟨y3, ey3, hf⟩ := ob hf
    obtain ⟨fsy3, hoy3⟩ := o_X3_isRun ey3
    refine sp_callVi (pc := 12) (z := M_X3_isRun) (As := [.int (v1 + 1)]) (b := v0) (bc2 := bc) (bs2 := bs) (m_X3_isRun (Q := _) (fun sz => ⟨y3, rfl, ?_⟩) ey3) rfl dX3_canMerge_12 hoy3 rfl rfl ck_X3_canMerge_61 (Nat.le_of_ble_eq_true rfl) rfl rfl rfl
    refine sp_if_ne (pc := 15) (tgt := 20) dX3_canMerge_15 (by decide) (fun c4 => ?_) (fun c4 => ?_)
    · rw [if_neg c4] at hf
      refine sp_aload_n (pc := 20) dX3_canMerge_20 0 rfl ?_
      obtain ⟨x5, ex5, hf⟩ := ob hf
      refine sp_gR (pc := 21) fl_RX3_27 dX3_canMerge_21 ex5 ?_
      obtain ⟨y6, ey6, hf⟩ := ob hf
      obtain ⟨fsy6, hoy6⟩ := o_X6_size ey6
      refine sp_callVi (pc := 24) (z := M_X6_size) (As := []) (b := x5) (bc2 := bc) (bs2 := bs) (m_X6_size (Q := _) (fun sz => ⟨y6, rfl, ?_⟩) ey6) rfl dX3_canMerge_24 hoy6 rfl rfl ck_X3_canMerge_47 (Nat.le_of_ble_eq_true rfl) rfl rfl rfl
      refine sp_aload_n (pc := 27) dX3_canMerge_27 0 rfl ?_
      refine sp_iload_n (pc := 28) dX3_canMerge_28 1 rfl ?_
      obtain ⟨y7, ey7, hf⟩ := ob hf
      obtain ⟨fsy7, hoy7⟩ := o_X3_sizeOf ey7
      refine sp_callVi (pc := 29) (z := M_X3_sizeOf) (As := [.int v1]) (b := v0) (bc2 := bc) (bs2 := bs) (m_X3_sizeOf (Q := _) (fun sz => ⟨y7, rfl, ?_⟩) ey7) rfl dX3_canMerge_29 hoy7 rfl rfl ck_X3_canMerge_109 (Nat.le_of_ble_eq_true rfl) rfl rfl rfl
      refine sp_isub (pc := 32) dX3_canMerge_32 ?_
      refine sp_aload_n (pc := 33) dX3_canMerge_33 0 rfl ?_
      refine sp_iload_n (pc := 34) dX3_canMerge_34 1 rfl ?_
      refine sp_iconst (pc := 35) (v := 1) dX3_canMerge_35 (by decide) ?_
      refine sp_iadd (pc := 36) dX3_canMerge_36 ?_
      obtain ⟨y8, ey8, hf⟩ := ob hf
      obtain ⟨fsy8, hoy8⟩ := o_X3_sizeOf ey8
      refine sp_callVi (pc := 37) (z := M_X3_sizeOf) (As := [.int (v1 + 1)]) (b := v0) (bc2 := bc) (bs2 := bs) (m_X3_sizeOf (Q := _) (fun sz => ⟨y8, rfl, ?_⟩) ey8) rfl dX3_canMerge_37 hoy8 rfl rfl ck_X3_canMerge_109 (Nat.le_of_ble_eq_true rfl) rfl rfl rfl
      refine sp_isub (pc := 40) dX3_canMerge_40 ?_
      refine sp_istore_n (pc := 41) (lv' := [(2, .int ((y6 - y7) - y8)), (0, .ref v0), (1, .int v1)]) dX3_canMerge_41 (by decide) rfl ?_
      refine sp_iload_n (pc := 42) dX3_canMerge_42 0 rfl ?_
      refine sp_aload_n (pc := 43) dX3_canMerge_43 1 rfl ?_
      obtain ⟨x9, ex9, hf⟩ := ob hf
      refine sp_gR (pc := 44) fl_RX3_18 dX3_canMerge_44 ex9 ?_
      refine sp_aload_n (pc := 47) dX3_canMerge_47 1 rfl ?_
      refine sp_iload_n (pc := 48) dX3_canMerge_48 2 rfl ?_
      refine sp_iload_n (pc := 49) dX3_canMerge_49 2 rfl ?_
      refine sp_iconst (pc := 50) (v := 1) dX3_canMerge_50 (by decide) ?_
      refine sp_iadd (pc := 51) dX3_canMerge_51 ?_
      obtain ⟨y10, ey10, hf⟩ := ob hf
      obtain ⟨fsy10, hoy10⟩ := o_X0_clean ey10
      refine sp_callVi (pc := 52) (z := M_X0_clean) (As := [.ref v0, .int v1, .int (v1 + 1)]) (b := x9) (bc2 := bc) (bs2 := bs) (m_X0_clean (Q := _) (fun sz => ⟨y10.1, rfl, ?_⟩) ey10) rfl dX3_canMerge_52 hoy10 rfl rfl ck_X3_canMerge_112 (Nat.le_of_ble_eq_true rfl) rfl rfl rfl
      refine sp_iadd (pc := 55) dX3_canMerge_55 ?_
      refine sp_bipush (pc := 56) (v := 48) dX3_canMerge_56 (by decide) ?_
      refine sp_icmp_gt (pc := 58) (tgt := 65) dX3_canMerge_58 (by decide) (fun c11 => ?_) (fun c11 => ?_)
      · rw [if_pos c11] at hf
        refine sp_iconst (pc := 65) (v := 0) dX3_canMerge_65 (by decide) ?_
        obtain rfl := Option.some.inj hf
        exact sp_ireturn (pc := 66) dX3_canMerge_66 rfl rfl (hQ _)
      · rw [if_neg c11] at hf
        refine sp_iconst (pc := 61) (v := 1) dX3_canMerge_61 (by decide) ?_
        refine sp_goto (pc := 62) (tgt := 66) dX3_canMerge_62 (by decide) ?_
        obtain rfl := Option.some.inj hf
        exact sp_ireturn (pc := 66) dX3_canMerge_66 rfl rfl (hQ _)
    · rw [if_pos c4] at hf
      refine sp_iconst (pc := 18) (v := 0) dX3_canMerge_18 (by decide) ?_
      obtain rfl := Option.some.inj hf
      exact sp_ireturn (pc := 19) dX3_canMerge_19 rfl rfl (hQ _)

theorem o_X3_canMerge {h : HP} {v0 : Nat} {v1 : Int32} {res : Int32 × HP} (hf : f_X3_canMerge h v0 v1 = some res) : ∃ fs, h v0 = some (.inr (3, fs)) := by
  obtain ⟨u, eu, -⟩ := ob hf
  exact kO_spec eu

theorem m_X3_canMerge {l : Launch} {Q : PST} {h : HP} {v0 : Nat} {v1 : Int32} {sz : Nat} {res : Int32 × HP} (hQ : ∀ sz', Q (.inl (some (.int res.1))) res.2 sz') (hf : f_X3_canMerge h v0 v1 = some res) : MM l M_X3_canMerge [.ref v0, .int v1] h sz Q := by
  obtain ⟨u, eu, hf⟩ := ob hf
  exact MM_of wok_X3_canMerge (by decide +kernel) (Nat.le_of_ble_eq_true rfl) ((w_X3_canMerge_0 hQ hf))

theorem dX3_savedBy_0 : decode (mB M_X3_savedBy) 0 = .ok (.aload_n 0, 1) := by decide +kernel
theorem dX3_savedBy_1 : decode (mB M_X3_savedBy) 1 = .ok (.iload_n 1, 1) := by decide +kernel
theorem dX3_savedBy_2 : decode (mB M_X3_savedBy) 2 = .ok (.invokevirtual 109, 3) := by decide +kernel
theorem dX3_savedBy_5 : decode (mB M_X3_savedBy) 5 = .ok (.aload_n 0, 1) := by decide +kernel
theorem dX3_savedBy_6 : decode (mB M_X3_savedBy) 6 = .ok (.iload_n 1, 1) := by decide +kernel
theorem dX3_savedBy_7 : decode (mB M_X3_savedBy) 7 = .ok (.iconst 1, 1) := by decide +kernel
theorem dX3_savedBy_8 : decode (mB M_X3_savedBy) 8 = .ok (.iadd, 1) := by decide +kernel
theorem dX3_savedBy_9 : decode (mB M_X3_savedBy) 9 = .ok (.invokevirtual 109, 3) := by decide +kernel
theorem dX3_savedBy_12 : decode (mB M_X3_savedBy) 12 = .ok (.iadd, 1) := by decide +kernel
theorem dX3_savedBy_13 : decode (mB M_X3_savedBy) 13 = .ok (.aload_n 0, 1) := by decide +kernel
theorem dX3_savedBy_14 : decode (mB M_X3_savedBy) 14 = .ok (.getfield 18, 3) := by decide +kernel
theorem dX3_savedBy_17 : decode (mB M_X3_savedBy) 17 = .ok (.aload_n 0, 1) := by decide +kernel
theorem dX3_savedBy_18 : decode (mB M_X3_savedBy) 18 = .ok (.iload_n 1, 1) := by decide +kernel
theorem dX3_savedBy_19 : decode (mB M_X3_savedBy) 19 = .ok (.iload_n 1, 1) := by decide +kernel
theorem dX3_savedBy_20 : decode (mB M_X3_savedBy) 20 = .ok (.iconst 1, 1) := by decide +kernel
theorem dX3_savedBy_21 : decode (mB M_X3_savedBy) 21 = .ok (.iadd, 1) := by decide +kernel
theorem dX3_savedBy_22 : decode (mB M_X3_savedBy) 22 = .ok (.invokevirtual 112, 3) := by decide +kernel
theorem dX3_savedBy_25 : decode (mB M_X3_savedBy) 25 = .ok (.isub, 1) := by decide +kernel
theorem dX3_savedBy_26 : decode (mB M_X3_savedBy) 26 = .ok (.ireturn, 1) := by decide +kernel
def b_X3_savedBy_0 (v0 : Nat) (v1 : Int32) (h : HP) : Option (Int32 × HP) :=
  (f_X3_sizeOf h v0 v1).bind fun y1 => (f_X3_sizeOf h v0 (v1 + 1)).bind fun y2 => (gR 3 0 h v0).bind fun x3 => (f_X0_clean h x3 v0 v1 (v1 + 1)).bind fun y4 => some ((y1 + y2) - y4.1, y4.2)
def f_X3_savedBy (h : HP) (v0 : Nat) (v1 : Int32) : Option (Int32 × HP) := (kO 3 h v0).bind fun _ => b_X3_savedBy_0 v0 v1 h
theorem w_X3_savedBy_0 {l : Launch} {X : SCR} {Q : PST} {bc bs : Nat} {res : Int32 × HP} {h : HP} (hQ : ∀ sz', Q (.inl (some (.int res.1))) res.2 sz') {v0 : Nat} {v1 : Int32} {sz : Nat} (hf : b_X3_savedBy_0 v0 v1 h  = some res) : SP l X M_X3_savedBy 0 [(0, .ref v0), (1, .int v1)] [] h sz bc bs Q := by
  rw [b_X3_savedBy_0] at hf
  refine sp_aload_n (pc := 0) dX3_savedBy_0 0 rfl ?_
  refine sp_iload_n (pc := 1) dX3_savedBy_1 1 rfl ?_
  obtain ⟨y1, ey1, hf⟩ := ob hf
  obtain ⟨fsy1, hoy1⟩ := o_X3_sizeOf ey1
  refine sp_callVi (pc := 2) (z := M_X3_sizeOf) (As := [.int v1]) (b := v0) (bc2 := bc) (bs2 := bs) (m_X3_sizeOf (Q := _) (fun sz => ⟨y1, rfl, ?_⟩) ey1) rfl dX3_savedBy_2 hoy1 rfl rfl ck_X3_savedBy_109 (Nat.le_of_ble_eq_true rfl) rfl rfl rfl
  refine sp_aload_n (pc := 5) dX3_savedBy_5 0 rfl ?_
  refine sp_iload_n (pc := 6) dX3_savedBy_6 1 rfl ?_
  refine sp_iconst (pc := 7) (v := 1) dX3_savedBy_7 (by decide) ?_
  refine sp_iadd (pc := 8) dX3_savedBy_8 ?_
  obtain ⟨y2, ey2, hf⟩ := ob hf
  obtain ⟨fsy2, hoy2⟩ := o_X3_sizeOf ey2
  refine sp_callVi (pc := 9) (z := M_X3_sizeOf) (As := [.int (v1 + 1)]) (b := v0) (bc2 := bc) (bs2 := bs) (m_X3_sizeOf (Q := _) (fun sz => ⟨y2, rfl, ?_⟩) ey2) rfl dX3_savedBy_9 hoy2 rfl rfl ck_X3_savedBy_109 (Nat.le_of_ble_eq_true rfl) rfl rfl rfl
  refine sp_iadd (pc := 12) dX3_savedBy_12 ?_
  refine sp_aload_n (pc := 13) dX3_savedBy_13 0 rfl ?_
  obtain ⟨x3, ex3, hf⟩ := ob hf
  refine sp_gR (pc := 14) fl_RX3_18 dX3_savedBy_14 ex3 ?_
  refine sp_aload_n (pc := 17) dX3_savedBy_17 0 rfl ?_
  refine sp_iload_n (pc := 18) dX3_savedBy_18 1 rfl ?_
  refine sp_iload_n (pc := 19) dX3_savedBy_19 1 rfl ?_
  refine sp_iconst (pc := 20) (v := 1) dX3_savedBy_20 (by decide) ?_
  refine sp_iadd (pc := 21) dX3_savedBy_21 ?_
  obtain ⟨y4, ey4, hf⟩ := ob hf
  obtain ⟨fsy4, hoy4⟩ := o_X0_clean ey4
  refine sp_callVi (pc := 22) (z := M_X0_clean) (As := [.ref v0, .int v1, .int (v1 + 1)]) (b := x3) (bc2 := bc) (bs2 := bs) (m_X0_clean (Q := _) (fun sz => ⟨y4.1, rfl, ?_⟩) ey4) rfl dX3_savedBy_22 hoy4 rfl rfl ck_X3_savedBy_112 (Nat.le_of_ble_eq_true rfl) rfl rfl rfl
  refine sp_isub (pc := 25) dX3_savedBy_25 ?_
  obtain rfl := Option.some.inj hf
  exact sp_ireturn (pc := 26) dX3_savedBy_26 rfl rfl (hQ _)

theorem o_X3_savedBy {h : HP} {v0 : Nat} {v1 : Int32} {res : Int32 × HP} (hf : f_X3_savedBy h v0 v1 = some res) : ∃ fs, h v0 = some (.inr (3, fs)) := by
  obtain ⟨u, eu, -⟩ := ob hf
  exact kO_spec eu

theorem m_X3_savedBy {l : Launch} {Q : PST} {h : HP} {v0 : Nat} {v1 : Int32} {sz : Nat} {res : Int32 × HP} (hQ : ∀ sz', Q (.inl (some (.int res.1))) res.2 sz') (hf : f_X3_savedBy h v0 v1 = some res) : MM l M_X3_savedBy [.ref v0, .int v1] h sz Q := by
  obtain ⟨u, eu, hf⟩ := ob hf
  exact MM_of wok_X3_savedBy (by decide +kernel) (Nat.le_of_ble_eq_true rfl) ((w_X3_savedBy_0 hQ hf))

theorem dX3_addWrite_0 : decode (mB M_X3_addWrite) 0 = .ok (.aload_n 0, 1) := by decide +kernel
theorem dX3_addWrite_1 : decode (mB M_X3_addWrite) 1 = .ok (.dup, 1) := by decide +kernel
theorem dX3_addWrite_2 : decode (mB M_X3_addWrite) 2 = .ok (.getfield 41, 3) := by decide +kernel
theorem dX3_addWrite_5 : decode (mB M_X3_addWrite) 5 = .ok (.iconst 1, 1) := by decide +kernel
theorem dX3_addWrite_6 : decode (mB M_X3_addWrite) 6 = .ok (.iadd, 1) := by decide +kernel
theorem dX3_addWrite_7 : decode (mB M_X3_addWrite) 7 = .ok (.putfield 41, 3) := by decide +kernel
theorem dX3_addWrite_10 : decode (mB M_X3_addWrite) 10 = .ok (.aload_n 0, 1) := by decide +kernel
theorem dX3_addWrite_11 : decode (mB M_X3_addWrite) 11 = .ok (.getfield 27, 3) := by decide +kernel
theorem dX3_addWrite_14 : decode (mB M_X3_addWrite) 14 = .ok (.aload_n 0, 1) := by decide +kernel
theorem dX3_addWrite_15 : decode (mB M_X3_addWrite) 15 = .ok (.getfield 41, 3) := by decide +kernel
theorem dX3_addWrite_18 : decode (mB M_X3_addWrite) 18 = .ok (.iload_n 1, 1) := by decide +kernel
theorem dX3_addWrite_19 : decode (mB M_X3_addWrite) 19 = .ok (.iload_n 2, 1) := by decide +kernel
theorem dX3_addWrite_20 : decode (mB M_X3_addWrite) 20 = .ok (.iload_n 3, 1) := by decide +kernel
theorem dX3_addWrite_21 : decode (mB M_X3_addWrite) 21 = .ok (.invokevirtual 118, 3) := by decide +kernel
theorem dX3_addWrite_24 : decode (mB M_X3_addWrite) 24 = .ok (.return_, 1) := by decide +kernel
def b_X3_addWrite_0 (v0 : Nat) (v1 : Int32) (v2 : Int32) (v3 : Int32) (h : HP) : Option (HP) :=
  (gI 3 6 h v0).bind fun x1 => (pI 3 6 h v0 (x1 + 1)).bind fun h2 => (gR 3 1 h2 v0).bind fun x3 => (gI 3 6 h2 v0).bind fun x4 => (f_X6_add h2 x3 x4 v1 v2 v3).bind fun y5 => some y5
def f_X3_addWrite (h : HP) (v0 : Nat) (v1 : Int32) (v2 : Int32) (v3 : Int32) : Option (HP) := (kO 3 h v0).bind fun _ => b_X3_addWrite_0 v0 v1 v2 v3 h
theorem w_X3_addWrite_0 {l : Launch} {X : SCR} {Q : PST} {bc bs : Nat} {res : HP} {h : HP} (hQ : ∀ sz', Q (.inl none) res sz') {v0 : Nat} {v1 : Int32} {v2 : Int32} {v3 : Int32} {sz : Nat} (hf : b_X3_addWrite_0 v0 v1 v2 v3 h  = some res) : SP l X M_X3_addWrite 0 [(0, .ref v0), (1, .int v1), (2, .int v2), (3, .int v3)] [] h sz bc bs Q := by
  rw [b_X3_addWrite_0] at hf
  refine sp_aload_n (pc := 0) dX3_addWrite_0 0 rfl ?_
  refine sp_dup (pc := 1) dX3_addWrite_1 rfl ?_
  obtain ⟨x1, ex1, hf⟩ := ob hf
  refine sp_gI (pc := 2) fl_RX3_41 dX3_addWrite_2 ex1 ?_
  refine sp_iconst (pc := 5) (v := 1) dX3_addWrite_5 (by decide) ?_
  refine sp_iadd (pc := 6) dX3_addWrite_6 ?_
  obtain ⟨h2, eh2, hf⟩ := ob hf
  refine sp_pI (pc := 7) pf_RX3_41 dX3_addWrite_7 eh2 (fun sz => ?_)
  refine sp_aload_n (pc := 10) dX3_addWrite_10 0 rfl ?_
  obtain ⟨x3, ex3, hf⟩ := ob hf
  refine sp_gR (pc := 11) fl_RX3_27 dX3_addWrite_11 ex3 ?_
  refine sp_aload_n (pc := 14) dX3_addWrite_14 0 rfl ?_
  obtain ⟨x4, ex4, hf⟩ := ob hf
  refine sp_gI (pc := 15) fl_RX3_41 dX3_addWrite_15 ex4 ?_
  refine sp_iload_n (pc := 18) dX3_addWrite_18 1 rfl ?_
  refine sp_iload_n (pc := 19) dX3_addWrite_19 2 rfl ?_
  refine sp_iload_n (pc := 20) dX3_addWrite_20 3 rfl ?_
  obtain ⟨y5, ey5, hf⟩ := ob hf
  obtain ⟨fsy5, hoy5⟩ := o_X6_add ey5
  refine sp_callVv (pc := 21) (z := M_X6_add) (As := [.int x4, .int v1, .int v2, .int v3]) (b := x3) (bc2 := bc) (bs2 := bs) (m_X6_add (Q := _) (fun sz => ⟨(), rfl, ?_⟩) ey5) rfl dX3_addWrite_21 hoy5 rfl rfl ck_X3_addWrite_118 (Nat.le_of_ble_eq_true rfl) rfl rfl rfl
  obtain rfl := Option.some.inj hf
  exact sp_return (pc := 24) dX3_addWrite_24 rfl (hQ _)

theorem o_X3_addWrite {h : HP} {v0 : Nat} {v1 : Int32} {v2 : Int32} {v3 : Int32} {res : HP} (hf : f_X3_addWrite h v0 v1 v2 v3 = some res) : ∃ fs, h v0 = some (.inr (3, fs)) := by
  obtain ⟨u, eu, -⟩ := ob hf
  exact kO_spec eu

theorem m_X3_addWrite {l : Launch} {Q : PST} {h : HP} {v0 : Nat} {v1 : Int32} {v2 : Int32} {v3 : Int32} {sz : Nat} {res : HP} (hQ : ∀ sz', Q (.inl none) res sz') (hf : f_X3_addWrite h v0 v1 v2 v3 = some res) : MM l M_X3_addWrite [.ref v0, .int v1, .int v2, .int v3] h sz Q := by
  obtain ⟨u, eu, hf⟩ := ob hf
  exact MM_of wok_X3_addWrite (by decide +kernel) (Nat.le_of_ble_eq_true rfl) ((w_X3_addWrite_0 hQ hf))

theorem dX3_addEye_0 : decode (mB M_X3_addEye) 0 = .ok (.aload_n 0, 1) := by decide +kernel
theorem dX3_addEye_1 : decode (mB M_X3_addEye) 1 = .ok (.getfield 38, 3) := by decide +kernel
theorem dX3_addEye_4 : decode (mB M_X3_addEye) 4 = .ok (.aload_n 0, 1) := by decide +kernel
theorem dX3_addEye_5 : decode (mB M_X3_addEye) 5 = .ok (.getfield 15, 3) := by decide +kernel
theorem dX3_addEye_8 : decode (mB M_X3_addEye) 8 = .ok (.arraylength, 1) := by decide +kernel
theorem dX3_addEye_9 : decode (mB M_X3_addEye) 9 = .ok (.if_icmp .ge 26, 3) := by decide +kernel
theorem dX3_addEye_12 : decode (mB M_X3_addEye) 12 = .ok (.aload_n 0, 1) := by decide +kernel
theorem dX3_addEye_13 : decode (mB M_X3_addEye) 13 = .ok (.getfield 15, 3) := by decide +kernel
theorem dX3_addEye_16 : decode (mB M_X3_addEye) 16 = .ok (.aload_n 0, 1) := by decide +kernel
theorem dX3_addEye_17 : decode (mB M_X3_addEye) 17 = .ok (.getfield 38, 3) := by decide +kernel
theorem dX3_addEye_20 : decode (mB M_X3_addEye) 20 = .ok (.aload_n 0, 1) := by decide +kernel
theorem dX3_addEye_21 : decode (mB M_X3_addEye) 21 = .ok (.getfield 41, 3) := by decide +kernel
theorem dX3_addEye_24 : decode (mB M_X3_addEye) 24 = .ok (.iastore, 1) := by decide +kernel
theorem dX3_addEye_25 : decode (mB M_X3_addEye) 25 = .ok (.aload_n 0, 1) := by decide +kernel
theorem dX3_addEye_26 : decode (mB M_X3_addEye) 26 = .ok (.dup, 1) := by decide +kernel
theorem dX3_addEye_27 : decode (mB M_X3_addEye) 27 = .ok (.getfield 38, 3) := by decide +kernel
theorem dX3_addEye_30 : decode (mB M_X3_addEye) 30 = .ok (.iconst 1, 1) := by decide +kernel
theorem dX3_addEye_31 : decode (mB M_X3_addEye) 31 = .ok (.iadd, 1) := by decide +kernel
theorem dX3_addEye_32 : decode (mB M_X3_addEye) 32 = .ok (.putfield 38, 3) := by decide +kernel
theorem dX3_addEye_35 : decode (mB M_X3_addEye) 35 = .ok (.return_, 1) := by decide +kernel
def b_X3_addEye_0 (v0 : Nat) (h : HP) : Option (HP) :=
  (gI 3 5 h v0).bind fun x1 => (gR 3 3 h v0).bind fun x2 => (aN h x2).bind fun x3 => if x3 ≤ x1 then some h else (gR 3 3 h v0).bind fun x5 => (gI 3 5 h v0).bind fun x6 => (gI 3 6 h v0).bind fun x7 => (wI h x5 x6 x7).bind fun h8 => (gI 3 5 h8 v0).bind fun x9 => (pI 3 5 h8 v0 (x9 + 1)).bind fun h10 => some h10
def f_X3_addEye (h : HP) (v0 : Nat) : Option (HP) := (kO 3 h v0).bind fun _ => b_X3_addEye_0 v0 h
theorem w_X3_addEye_0 {l : Launch} {X : SCR} {Q : PST} {bc bs : Nat} {res : HP} {h : HP} (hQ : ∀ sz', Q (.inl none) res sz') {v0 : Nat} {sz : Nat} (hf : b_X3_addEye_0 v0 h  = some res) : SP l X M_X3_addEye 0 [(0, .ref v0)] [] h sz bc bs Q := by
  rw [b_X3_addEye_0] at hf
  refine sp_aload_n (pc := 0) dX3_addEye_0 0 rfl ?_
  obtain ⟨x1, ex1, hf⟩ := ob hf
  refine sp_gI (pc := 1) fl_RX3_38 dX3_addEye_1 ex1 ?_
  refine sp_aload_n (pc := 4) dX3_addEye_4 0 rfl ?_
  obtain ⟨x2, ex2, hf⟩ := ob hf
  refine sp_gR (pc := 5) fl_RX3_15 dX3_addEye_5 ex2 ?_
  obtain ⟨x3, ex3, hf⟩ := ob hf
  refine sp_aN (pc := 8) dX3_addEye_8 ex3 ?_
  refine sp_icmp_ge (pc := 9) (tgt := 35) dX3_addEye_9 (by decide) (fun c4 => ?_) (fun c4 => ?_)
  · rw [if_pos c4] at hf
    obtain rfl := Option.some.inj hf
    exact sp_return (pc := 35) dX3_addEye_35 rfl (hQ _)
  · rw [if_neg c4] at hf
    refine sp_aload_n (pc := 12) dX3_addEye_12 0 rfl ?_
    obtain ⟨x5, ex5, hf⟩ := ob hf
    refine sp_gR (pc := 13) fl_RX3_15 dX3_addEye_13 ex5 ?_
    refine sp_aload_n (pc := 16) dX3_addEye_16 0 rfl ?_
    obtain ⟨x6, ex6, hf⟩ := ob hf
    refine sp_gI (pc := 17) fl_RX3_38 dX3_addEye_17 ex6 ?_
    refine sp_aload_n (pc := 20) dX3_addEye_20 0 rfl ?_
    obtain ⟨x7, ex7, hf⟩ := ob hf
    refine sp_gI (pc := 21) fl_RX3_41 dX3_addEye_21 ex7 ?_
    obtain ⟨h8, eh8, hf⟩ := ob hf
    refine sp_wI (pc := 24) dX3_addEye_24 eh8 (fun sz => ?_)
    refine sp_aload_n (pc := 25) dX3_addEye_25 0 rfl ?_
    refine sp_dup (pc := 26) dX3_addEye_26 rfl ?_
    obtain ⟨x9, ex9, hf⟩ := ob hf
    refine sp_gI (pc := 27) fl_RX3_38 dX3_addEye_27 ex9 ?_
    refine sp_iconst (pc := 30) (v := 1) dX3_addEye_30 (by decide) ?_
    refine sp_iadd (pc := 31) dX3_addEye_31 ?_
    obtain ⟨h10, eh10, hf⟩ := ob hf
    refine sp_pI (pc := 32) pf_RX3_38 dX3_addEye_32 eh10 (fun sz => ?_)
    obtain rfl := Option.some.inj hf
    exact sp_return (pc := 35) dX3_addEye_35 rfl (hQ _)

theorem o_X3_addEye {h : HP} {v0 : Nat} {res : HP} (hf : f_X3_addEye h v0 = some res) : ∃ fs, h v0 = some (.inr (3, fs)) := by
  obtain ⟨u, eu, -⟩ := ob hf
  exact kO_spec eu

theorem m_X3_addEye {l : Launch} {Q : PST} {h : HP} {v0 : Nat} {sz : Nat} {res : HP} (hQ : ∀ sz', Q (.inl none) res sz') (hf : f_X3_addEye h v0 = some res) : MM l M_X3_addEye [.ref v0] h sz Q := by
  obtain ⟨u, eu, hf⟩ := ob hf
  exact MM_of wok_X3_addEye (by decide +kernel) (Nat.le_of_ble_eq_true rfl) ((w_X3_addEye_0 hQ hf))

theorem dX3_dropEye_0 : decode (mB M_X3_dropEye) 0 = .ok (.aload_n 0, 1) := by decide +kernel
theorem dX3_dropEye_1 : decode (mB M_X3_dropEye) 1 = .ok (.iload_n 1, 1) := by decide +kernel
theorem dX3_dropEye_2 : decode (mB M_X3_dropEye) 2 = .ok (.invokevirtual 89, 3) := by decide +kernel
theorem dX3_dropEye_5 : decode (mB M_X3_dropEye) 5 = .ok (.ifCond .ne 4, 3) := by decide +kernel
theorem dX3_dropEye_8 : decode (mB M_X3_dropEye) 8 = .ok (.return_, 1) := by decide +kernel
theorem dX3_dropEye_9 : decode (mB M_X3_dropEye) 9 = .ok (.iload_n 1, 1) := by decide +kernel
theorem dX3_dropEye_10 : decode (mB M_X3_dropEye) 10 = .ok (.iconst 1, 1) := by decide +kernel
theorem dX3_dropEye_11 : decode (mB M_X3_dropEye) 11 = .ok (.iadd, 1) := by decide +kernel
theorem dX3_dropEye_12 : decode (mB M_X3_dropEye) 12 = .ok (.istore_n 2, 1) := by decide +kernel
theorem dX3_dropEye_13 : decode (mB M_X3_dropEye) 13 = .ok (.iload_n 2, 1) := by decide +kernel
theorem dX3_dropEye_14 : decode (mB M_X3_dropEye) 14 = .ok (.aload_n 0, 1) := by decide +kernel
theorem dX3_dropEye_15 : decode (mB M_X3_dropEye) 15 = .ok (.getfield 38, 3) := by decide +kernel
theorem dX3_dropEye_18 : decode (mB M_X3_dropEye) 18 = .ok (.if_icmp .ge 23, 3) := by decide +kernel
theorem dX3_dropEye_21 : decode (mB M_X3_dropEye) 21 = .ok (.aload_n 0, 1) := by decide +kernel
theorem dX3_dropEye_22 : decode (mB M_X3_dropEye) 22 = .ok (.getfield 15, 3) := by decide +kernel
theorem dX3_dropEye_25 : decode (mB M_X3_dropEye) 25 = .ok (.iload_n 2, 1) := by decide +kernel
theorem dX3_dropEye_26 : decode (mB M_X3_dropEye) 26 = .ok (.iconst 1, 1) := by decide +kernel
theorem dX3_dropEye_27 : decode (mB M_X3_dropEye) 27 = .ok (.isub, 1) := by decide +kernel
theorem dX3_dropEye_28 : decode (mB M_X3_dropEye) 28 = .ok (.aload_n 0, 1) := by decide +kernel
theorem dX3_dropEye_29 : decode (mB M_X3_dropEye) 29 = .ok (.getfield 15, 3) := by decide +kernel
theorem dX3_dropEye_32 : decode (mB M_X3_dropEye) 32 = .ok (.iload_n 2, 1) := by decide +kernel
theorem dX3_dropEye_33 : decode (mB M_X3_dropEye) 33 = .ok (.iaload, 1) := by decide +kernel
theorem dX3_dropEye_34 : decode (mB M_X3_dropEye) 34 = .ok (.iastore, 1) := by decide +kernel
theorem dX3_dropEye_35 : decode (mB M_X3_dropEye) 35 = .ok (.iinc 2 1, 3) := by decide +kernel
theorem dX3_dropEye_38 : decode (mB M_X3_dropEye) 38 = .ok (.goto (-25), 3) := by decide +kernel
theorem dX3_dropEye_41 : decode (mB M_X3_dropEye) 41 = .ok (.aload_n 0, 1) := by decide +kernel
theorem dX3_dropEye_42 : decode (mB M_X3_dropEye) 42 = .ok (.dup, 1) := by decide +kernel
theorem dX3_dropEye_43 : decode (mB M_X3_dropEye) 43 = .ok (.getfield 38, 3) := by decide +kernel
theorem dX3_dropEye_46 : decode (mB M_X3_dropEye) 46 = .ok (.iconst 1, 1) := by decide +kernel
theorem dX3_dropEye_47 : decode (mB M_X3_dropEye) 47 = .ok (.isub, 1) := by decide +kernel
theorem dX3_dropEye_48 : decode (mB M_X3_dropEye) 48 = .ok (.putfield 38, 3) := by decide +kernel
theorem dX3_dropEye_51 : decode (mB M_X3_dropEye) 51 = .ok (.return_, 1) := by decide +kernel
def c_X3_dropEye_13 (v0 : Nat) (k13 : HP → Int32 → Option (HP)) (h : HP) (v2 : Int32) : Option (HP) :=
  (gI 3 5 h v0).bind fun x1 => if x1 ≤ v2 then (gI 3 5 h v0).bind fun x3 => (pI 3 5 h v0 (x3 - 1)).bind fun h4 => some h4 else (gR 3 3 h v0).bind fun x5 => (gR 3 3 h v0).bind fun x6 => (aI h x6 v2).bind fun x7 => (wI h x5 (v2 - 1) x7).bind fun h8 => k13 h8 (v2 + 1)
def b_X3_dropEye_13 (v0 : Nat) : Nat → HP → Int32 → Option (HP)
  | 0, _, _ => none
  | n + 1, h, v2 => c_X3_dropEye_13 v0 (b_X3_dropEye_13 v0 n) h v2
def b_X3_dropEye_0 (v0 : Nat) (v1 : Int32) (h : HP) : Option (HP) :=
  (f_X3_isEye h v0 v1).bind fun y1 => if y1 = 0 then some h else b_X3_dropEye_13 v0 FU h (v1 + 1)
def f_X3_dropEye (h : HP) (v0 : Nat) (v1 : Int32) : Option (HP) := (kO 3 h v0).bind fun _ => b_X3_dropEye_0 v0 v1 h
theorem wc_X3_dropEye_13 {l : Launch} {X : SCR} {Q : PST} {bc bs : Nat} {res : HP} (hQ : ∀ sz', Q (.inl none) res sz') {v0 : Nat} {k13 : HP → Int32 → Option (HP)} (hk13 : ∀ (h : HP) (v2 : Int32) (sz : Nat), k13 h v2 = some res → SP l X M_X3_dropEye 13 [(0, .ref v0), (2, .int v2)] [] h sz bc bs Q) {h : HP} {v2 : Int32} {sz : Nat} (hf : c_X3_dropEye_13 v0 k13 h v2 = some res) : SP l X M_X3_dropEye 13 [(0, .ref v0), (2, .int v2)] [] h sz bc bs Q := by
  rw [c_X3_dropEye_13] at hf
  refine sp_iload_n (pc := 13) dX3_dropEye_13 1 rfl ?_
  refine sp_aload_n (pc := 14) dX3_dropEye_14 0 rfl ?_
  obtain ⟨x1, ex1, hf⟩ := ob hf
  refine sp_gI (pc := 15) fl_RX3_38 dX3_dropEye_15 ex1 ?_
  refine sp_icmp_ge (pc := 18) (tgt := 41) dX3_dropEye_18 (by decide) (fun c2 => ?_) (fun c2 => ?_)
  · rw [if_pos c2] at hf
    refine sp_aload_n (pc := 41) dX3_dropEye_41 0 rfl ?_
    refine sp_dup (pc := 42) dX3_dropEye_42 rfl ?_
    obtain ⟨x3, ex3, hf⟩ := ob hf
    refine sp_gI (pc := 43) fl_RX3_38 dX3_dropEye_43 ex3 ?_
    refine sp_iconst (pc := 46) (v := 1) dX3_dropEye_46 (by decide) ?_
    refine sp_isub (pc := 47) dX3_dropEye_47 ?_
    obtain ⟨h4, eh4, hf⟩ := ob hf
    refine sp_pI (pc := 48) pf_RX3_38 dX3_dropEye_48 eh4 (fun sz => ?_)
    obtain rfl := Option.some.inj hf
    exact sp_return (pc := 51) dX3_dropEye_51 rfl (hQ _)
  · rw [if_neg c2] at hf
    refine sp_aload_n (pc := 21) dX3_dropEye_21 0 rfl ?_
    obtain ⟨x5, ex5, hf⟩ := ob hf
    refine sp_gR (pc := 22) fl_RX3_15 dX3_dropEye_22 ex5 ?_
    refine sp_iload_n (pc := 25) dX3_dropEye_25 1 rfl ?_
    refine sp_iconst (pc := 26) (v := 1) dX3_dropEye_26 (by decide) ?_
    refine sp_isub (pc := 27) dX3_dropEye_27 ?_
    refine sp_aload_n (pc := 28) dX3_dropEye_28 0 rfl ?_
    obtain ⟨x6, ex6, hf⟩ := ob hf
    refine sp_gR (pc := 29) fl_RX3_15 dX3_dropEye_29 ex6 ?_
    refine sp_iload_n (pc := 32) dX3_dropEye_32 1 rfl ?_
    obtain ⟨x7, ex7, hf⟩ := ob hf
    refine sp_aI (pc := 33) dX3_dropEye_33 ex7 ?_
    obtain ⟨h8, eh8, hf⟩ := ob hf
    refine sp_wI (pc := 34) dX3_dropEye_34 eh8 (fun sz => ?_)
    refine sp_iinc (pc := 35) (v := v2 + 1) (lv' := [(2, .int (v2 + 1)), (0, .ref v0)]) dX3_dropEye_35 1 rfl rfl (by decide) rfl ?_
    refine sp_goto (pc := 38) (tgt := 13) dX3_dropEye_38 (by decide) ?_
    exact sp_sub [1, 0] rfl (hk13 _ _ _ hf)

theorem w_X3_dropEye_13 {l : Launch} {X : SCR} {Q : PST} {bc bs : Nat} {res : HP} (hQ : ∀ sz', Q (.inl none) res sz') {v0 : Nat} : ∀ (n : Nat) {h : HP} {v2 : Int32} {sz : Nat}, b_X3_dropEye_13 v0 n h v2 = some res → SP l X M_X3_dropEye 13 [(0, .ref v0), (2, .int v2)] [] h sz bc bs Q := by
  intro n
  induction n with
  | zero =>
    intro h v2 sz hf
    rw [b_X3_dropEye_13] at hf
    cases hf
  | succ n ih =>
    intro h v2 sz hf
    rw [b_X3_dropEye_13] at hf
    exact wc_X3_dropEye_13 hQ (fun h v2 sz hf => ih hf) hf

theorem w_X3_dropEye_0 {l : Launch} {X : SCR} {Q : PST} {bc bs : Nat} {res : HP} {h : HP} (hQ : ∀ sz', Q (.inl none) res sz') {v0 : Nat} {v1 : Int32} {sz : Nat} (hf : b_X3_dropEye_0 v0 v1 h  = some res) : SP l X M_X3_dropEye 0 [(0, .ref v0), (1, .int v1)] [] h sz bc bs Q := by
  rw [b_X3_dropEye_0] at hf
  refine sp_aload_n (pc := 0) dX3_dropEye_0 0 rfl ?_
  refine sp_iload_n (pc := 1) dX3_dropEye_1 1 rfl ?_
  obtain ⟨y1, ey1, hf⟩ := ob hf
  obtain ⟨fsy1, hoy1⟩ := o_X3_isEye ey1
  refine sp_callVi (pc := 2) (z := M_X3_isEye) (As := [.int v1]) (b := v0) (bc2 := bc) (bs2 := bs) (m_X3_isEye (Q := _) (fun sz => ⟨y1, rfl, ?_⟩) ey1) rfl dX3_dropEye_2 hoy1 rfl rfl ck_X3_dropEye_89 (Nat.le_of_ble_eq_true rfl) rfl rfl rfl
  refine sp_if_ne (pc := 5) (tgt := 9) dX3_dropEye_5 (by decide) (fun c2 => ?_) (fun c2 => ?_)
  · rw [if_neg c2] at hf
    refine sp_iload_n (pc := 9) dX3_dropEye_9 1 rfl ?_
    refine sp_iconst (pc := 10) (v := 1) dX3_dropEye_10 (by decide) ?_
    refine sp_iadd (pc := 11) dX3_dropEye_11 ?_
    refine sp_istore_n (pc := 12) (lv' := [(2, .int (v1 + 1)), (0, .ref v0), (1, .int v1)]) dX3_dropEye_12 (by decide) rfl ?_
    exact sp_sub [1, 0] rfl (w_X3_dropEye_13 hQ FU hf)
  · rw [if_pos c2] at hf
    obtain rfl := Option.some.inj hf
    exact sp_return (pc := 8) dX3_dropEye_8 rfl (hQ _)

theorem o_X3_dropEye {h : HP} {v0 : Nat} {v1 : Int32} {res : HP} (hf : f_X3_dropEye h v0 v1 = some res) : ∃ fs, h v0 = some (.inr (3, fs)) := by
  obtain ⟨u, eu, -⟩ := ob hf
  exact kO_spec eu

theorem m_X3_dropEye {l : Launch} {Q : PST} {h : HP} {v0 : Nat} {v1 : Int32} {sz : Nat} {res : HP} (hQ : ∀ sz', Q (.inl none) res sz') (hf : f_X3_dropEye h v0 v1 = some res) : MM l M_X3_dropEye [.ref v0, .int v1] h sz Q := by
  obtain ⟨u, eu, hf⟩ := ob hf
  exact MM_of wok_X3_dropEye (by decide +kernel) (Nat.le_of_ble_eq_true rfl) ((w_X3_dropEye_0 hQ hf))

theorem dX3_dropAllEyes_0 : decode (mB M_X3_dropAllEyes) 0 = .ok (.aload_n 0, 1) := by decide +kernel
theorem dX3_dropAllEyes_1 : decode (mB M_X3_dropAllEyes) 1 = .ok (.iconst 0, 1) := by decide +kernel
theorem dX3_dropAllEyes_2 : decode (mB M_X3_dropAllEyes) 2 = .ok (.putfield 38, 3) := by decide +kernel
theorem dX3_dropAllEyes_5 : decode (mB M_X3_dropAllEyes) 5 = .ok (.return_, 1) := by decide +kernel
def b_X3_dropAllEyes_0 (v0 : Nat) (h : HP) : Option (HP) :=
  (pI 3 5 h v0 0).bind fun h1 => some h1
def f_X3_dropAllEyes (h : HP) (v0 : Nat) : Option (HP) := (kO 3 h v0).bind fun _ => b_X3_dropAllEyes_0 v0 h
theorem w_X3_dropAllEyes_0 {l : Launch} {X : SCR} {Q : PST} {bc bs : Nat} {res : HP} {h : HP} (hQ : ∀ sz', Q (.inl none) res sz') {v0 : Nat} {sz : Nat} (hf : b_X3_dropAllEyes_0 v0 h  = some res) : SP l X M_X3_dropAllEyes 0 [(0, .ref v0)] [] h sz bc bs Q := by
  rw [b_X3_dropAllEyes_0] at hf
  refine sp_aload_n (pc := 0) dX3_dropAllEyes_0 0 rfl ?_
  refine sp_iconst (pc := 1) (v := 0) dX3_dropAllEyes_1 (by decide) ?_
  obtain ⟨h1, eh1, hf⟩ := ob hf
  refine sp_pI (pc := 2) pf_RX3_38 dX3_dropAllEyes_2 eh1 (fun sz => ?_)
  obtain rfl := Option.some.inj hf
  exact sp_return (pc := 5) dX3_dropAllEyes_5 rfl (hQ _)

theorem o_X3_dropAllEyes {h : HP} {v0 : Nat} {res : HP} (hf : f_X3_dropAllEyes h v0 = some res) : ∃ fs, h v0 = some (.inr (3, fs)) := by
  obtain ⟨u, eu, -⟩ := ob hf
  exact kO_spec eu

theorem m_X3_dropAllEyes {l : Launch} {Q : PST} {h : HP} {v0 : Nat} {sz : Nat} {res : HP} (hQ : ∀ sz', Q (.inl none) res sz') (hf : f_X3_dropAllEyes h v0 = some res) : MM l M_X3_dropAllEyes [.ref v0] h sz Q := by
  obtain ⟨u, eu, hf⟩ := ob hf
  exact MM_of wok_X3_dropAllEyes (by decide +kernel) (Nat.le_of_ble_eq_true rfl) ((w_X3_dropAllEyes_0 hQ hf))

theorem dX3_flushMemory_0 : decode (mB M_X3_flushMemory) 0 = .ok (.aload_n 0, 1) := by decide +kernel
theorem dX3_flushMemory_1 : decode (mB M_X3_flushMemory) 1 = .ok (.getfield 18, 3) := by decide +kernel
theorem dX3_flushMemory_4 : decode (mB M_X3_flushMemory) 4 = .ok (.aload_n 0, 1) := by decide +kernel
theorem dX3_flushMemory_5 : decode (mB M_X3_flushMemory) 5 = .ok (.iconst (-1), 1) := by decide +kernel
theorem dX3_flushMemory_6 : decode (mB M_X3_flushMemory) 6 = .ok (.iconst (-1), 1) := by decide +kernel
theorem dX3_flushMemory_7 : decode (mB M_X3_flushMemory) 7 = .ok (.invokevirtual 112, 3) := by decide +kernel
theorem dX3_flushMemory_10 : decode (mB M_X3_flushMemory) 10 = .ok (.istore_n 1, 1) := by decide +kernel
theorem dX3_flushMemory_11 : decode (mB M_X3_flushMemory) 11 = .ok (.aload_n 0, 1) := by decide +kernel
theorem dX3_flushMemory_12 : decode (mB M_X3_flushMemory) 12 = .ok (.dup, 1) := by decide +kernel
theorem dX3_flushMemory_13 : decode (mB M_X3_flushMemory) 13 = .ok (.getfield 44, 3) := by decide +kernel
theorem dX3_flushMemory_16 : decode (mB M_X3_flushMemory) 16 = .ok (.aload_n 0, 1) := by decide +kernel
theorem dX3_flushMemory_17 : decode (mB M_X3_flushMemory) 17 = .ok (.iconst (-1), 1) := by decide +kernel
theorem dX3_flushMemory_18 : decode (mB M_X3_flushMemory) 18 = .ok (.invokevirtual 109, 3) := by decide +kernel
theorem dX3_flushMemory_21 : decode (mB M_X3_flushMemory) 21 = .ok (.iload_n 1, 1) := by decide +kernel
theorem dX3_flushMemory_22 : decode (mB M_X3_flushMemory) 22 = .ok (.isub, 1) := by decide +kernel
theorem dX3_flushMemory_23 : decode (mB M_X3_flushMemory) 23 = .ok (.iadd, 1) := by decide +kernel
theorem dX3_flushMemory_24 : decode (mB M_X3_flushMemory) 24 = .ok (.putfield 44, 3) := by decide +kernel
theorem dX3_flushMemory_27 : decode (mB M_X3_flushMemory) 27 = .ok (.aload_n 0, 1) := by decide +kernel
theorem dX3_flushMemory_28 : decode (mB M_X3_flushMemory) 28 = .ok (.getfield 27, 3) := by decide +kernel
theorem dX3_flushMemory_31 : decode (mB M_X3_flushMemory) 31 = .ok (.aload_n 0, 1) := by decide +kernel
theorem dX3_flushMemory_32 : decode (mB M_X3_flushMemory) 32 = .ok (.iconst (-1), 1) := by decide +kernel
theorem dX3_flushMemory_33 : decode (mB M_X3_flushMemory) 33 = .ok (.invokevirtual 69, 3) := by decide +kernel
theorem dX3_flushMemory_36 : decode (mB M_X3_flushMemory) 36 = .ok (.aload_n 0, 1) := by decide +kernel
theorem dX3_flushMemory_37 : decode (mB M_X3_flushMemory) 37 = .ok (.iconst (-1), 1) := by decide +kernel
theorem dX3_flushMemory_38 : decode (mB M_X3_flushMemory) 38 = .ok (.invokevirtual 65, 3) := by decide +kernel
theorem dX3_flushMemory_41 : decode (mB M_X3_flushMemory) 41 = .ok (.aload_n 0, 1) := by decide +kernel
theorem dX3_flushMemory_42 : decode (mB M_X3_flushMemory) 42 = .ok (.getfield 18, 3) := by decide +kernel
theorem dX3_flushMemory_45 : decode (mB M_X3_flushMemory) 45 = .ok (.getfield 122, 3) := by decide +kernel
theorem dX3_flushMemory_48 : decode (mB M_X3_flushMemory) 48 = .ok (.invokevirtual 51, 3) := by decide +kernel
theorem dX3_flushMemory_51 : decode (mB M_X3_flushMemory) 51 = .ok (.iload_n 1, 1) := by decide +kernel
theorem dX3_flushMemory_52 : decode (mB M_X3_flushMemory) 52 = .ok (.ifCond .le 41, 3) := by decide +kernel
theorem dX3_flushMemory_55 : decode (mB M_X3_flushMemory) 55 = .ok (.aload_n 0, 1) := by decide +kernel
theorem dX3_flushMemory_56 : decode (mB M_X3_flushMemory) 56 = .ok (.getfield 34, 3) := by decide +kernel
theorem dX3_flushMemory_59 : decode (mB M_X3_flushMemory) 59 = .ok (.aload_n 0, 1) := by decide +kernel
theorem dX3_flushMemory_60 : decode (mB M_X3_flushMemory) 60 = .ok (.getfield 9, 3) := by decide +kernel
theorem dX3_flushMemory_63 : decode (mB M_X3_flushMemory) 63 = .ok (.arraylength, 1) := by decide +kernel
theorem dX3_flushMemory_64 : decode (mB M_X3_flushMemory) 64 = .ok (.if_icmp .ge 29, 3) := by decide +kernel
theorem dX3_flushMemory_67 : decode (mB M_X3_flushMemory) 67 = .ok (.aload_n 0, 1) := by decide +kernel
theorem dX3_flushMemory_68 : decode (mB M_X3_flushMemory) 68 = .ok (.getfield 9, 3) := by decide +kernel
theorem dX3_flushMemory_71 : decode (mB M_X3_flushMemory) 71 = .ok (.aload_n 0, 1) := by decide +kernel
theorem dX3_flushMemory_72 : decode (mB M_X3_flushMemory) 72 = .ok (.getfield 34, 3) := by decide +kernel
theorem dX3_flushMemory_75 : decode (mB M_X3_flushMemory) 75 = .ok (.aload_n 0, 1) := by decide +kernel
theorem dX3_flushMemory_76 : decode (mB M_X3_flushMemory) 76 = .ok (.getfield 27, 3) := by decide +kernel
theorem dX3_flushMemory_79 : decode (mB M_X3_flushMemory) 79 = .ok (.invokevirtual 47, 3) := by decide +kernel
theorem dX3_flushMemory_82 : decode (mB M_X3_flushMemory) 82 = .ok (.iastore, 1) := by decide +kernel
theorem dX3_flushMemory_83 : decode (mB M_X3_flushMemory) 83 = .ok (.aload_n 0, 1) := by decide +kernel
theorem dX3_flushMemory_84 : decode (mB M_X3_flushMemory) 84 = .ok (.dup, 1) := by decide +kernel
theorem dX3_flushMemory_85 : decode (mB M_X3_flushMemory) 85 = .ok (.getfield 34, 3) := by decide +kernel
theorem dX3_flushMemory_88 : decode (mB M_X3_flushMemory) 88 = .ok (.iconst 1, 1) := by decide +kernel
theorem dX3_flushMemory_89 : decode (mB M_X3_flushMemory) 89 = .ok (.iadd, 1) := by decide +kernel
theorem dX3_flushMemory_90 : decode (mB M_X3_flushMemory) 90 = .ok (.putfield 34, 3) := by decide +kernel
theorem dX3_flushMemory_93 : decode (mB M_X3_flushMemory) 93 = .ok (.iload_n 1, 1) := by decide +kernel
theorem dX3_flushMemory_94 : decode (mB M_X3_flushMemory) 94 = .ok (.ireturn, 1) := by decide +kernel
def b_X3_flushMemory_0 (v0 : Nat) (h : HP) : Option (Int32 × HP) :=
  (gR 3 0 h v0).bind fun x1 => (f_X0_clean h x1 v0 (-1) (-1)).bind fun y2 => (gI 3 7 y2.2 v0).bind fun x3 => (f_X3_sizeOf y2.2 v0 (-1)).bind fun y4 => (pI 3 7 y2.2 v0 (x3 + (y4 - y2.1))).bind fun h5 => (gR 3 1 h5 v0).bind fun x6 => (f_X3_startOf h5 v0 (-1)).bind fun y7 => (f_X3_endOf h5 v0 (-1)).bind fun y8 => (gR 3 0 h5 v0).bind fun x9 => (gR 0 0 h5 x9).bind fun x10 => (f_X6_replace h5 x6 y7 y8 x10).bind fun y11 => if y2.1 ≤ 0 then some (y2.1, y11) else (gI 3 4 y11 v0).bind fun x13 => (gR 3 2 y11 v0).bind fun x14 => (aN y11 x14).bind fun x15 => if x15 ≤ x13 then some (y2.1, y11) else (gR 3 2 y11 v0).bind fun x17 => (gI 3 4 y11 v0).bind fun x18 => (gR 3 1 y11 v0).bind fun x19 => (f_X6_size y11 x19).bind fun y20 => (wI y11 x17 x18 y20).bind fun h21 => (gI 3 4 h21 v0).bind fun x22 => (pI 3 4 h21 v0 (x22 + 1)).bind fun h23 => some (y2.1, h23)
def f_X3_flushMemory (h : HP) (v0 : Nat) : Option (Int32 × HP) := (kO 3 h v0).bind fun _ => b_X3_flushMemory_0 v0 h
theorem w_X3_flushMemory_0 {l : Launch} {X : SCR} {Q : PST} {bc bs : Nat} {res : Int32 × HP} {h : HP} (hQ : ∀ sz', Q (.inl (some (.int res.1))) res.2 sz') {v0 : Nat} {sz : Nat} (hf : b_X3_flushMemory_0 v0 h  = some res) : SP l X M_X3_flushMemory 0 [(0, .ref v0)] [] h sz bc bs Q := by
  rw [b_X3_flushMemory_0] at hf
  refine sp_aload_n (pc := 0) dX3_flushMemory_0 0 rfl ?_
  obtain ⟨x1, ex1, hf⟩ := ob hf
  refine sp_gR (pc := 1) fl_RX3_18 dX3_flushMemory_1 ex1 ?_
  refine sp_aload_n (pc := 4) dX3_flushMemory_4 0 rfl ?_
  refine sp_iconst (pc := 5) (v := (-1)) dX3_flushMemory_5 (by decide) ?_
  refine sp_iconst (pc := 6) (v := (-1)) dX3_flushMemory_6 (by decide) ?_
  obtain ⟨y2, ey2, hf⟩ := ob hf
  obtain ⟨fsy2, hoy2⟩ := o_X0_clean ey2
  refine sp_callVi (pc := 7) (z := M_X0_clean) (As := [.ref v0, .int (-1), .int (-1)]) (b := x1) (bc2 := bc) (bs2 := bs) (m_X0_clean (Q := _) (fun sz => ⟨y2.1, rfl, ?_⟩) ey2) rfl dX3_flushMemory_7 hoy2 rfl rfl ck_X3_flushMemory_112 (Nat.le_of_ble_eq_true rfl) rfl rfl rfl
  refine sp_istore_n (pc := 10) (lv' := [(1, .int y2.1), (0, .ref v0)]) dX3_flushMemory_10 (by decide) rfl ?_
  refine sp_aload_n (pc := 11) dX3_flushMemory_11 1 rfl ?_
  refine sp_dup (pc := 12) dX3_flushMemory_12 rfl ?_
  obtain ⟨x3, ex3, hf⟩ := ob hf
  refine sp_gI (pc := 13) fl_RX3_44 dX3_flushMemory_13 ex3 ?_
  refine sp_aload_n (pc := 16) dX3_flushMemory_16 1 rfl ?_
  refine sp_iconst (pc := 17) (v := (-1)) dX3_flushMemory_17 (by decide) ?_
  obtain ⟨y4, ey4, hf⟩ := ob hf
  obtain ⟨fsy4, hoy4⟩ := o_X3_sizeOf ey4
  refine sp_callVi (pc := 18) (z := M_X3_sizeOf) (As := [.int (-1)]) (b := v0) (bc2 := bc) (bs2 := bs) (m_X3_sizeOf (Q := _) (fun sz => ⟨y4, rfl, ?_⟩) ey4) rfl dX3_flushMemory_18 hoy4 rfl rfl ck_X3_flushMemory_109 (Nat.le_of_ble_eq_true rfl) rfl rfl rfl
  refine sp_iload_n (pc := 21) dX3_flushMemory_21 0 rfl ?_
  refine sp_isub (pc := 22) dX3_flushMemory_22 ?_
  refine sp_iadd (pc := 23) dX3_flushMemory_23 ?_
  obtain ⟨h5, eh5, hf⟩ := ob hf
  refine sp_pI (pc := 24) pf_RX3_44 dX3_flushMemory_24 eh5 (fun sz => ?_)
  refine sp_aload_n (pc := 27) dX3_flushMemory_27 1 rfl ?_
  obtain ⟨x6, ex6, hf⟩ := ob hf
  refine sp_gR (pc := 28) fl_RX3_27 dX3_flushMemory_28 ex6 ?_
  refine sp_aload_n (pc := 31) dX3_flushMemory_31 1 rfl ?_
  refine sp_iconst (pc := 32) (v := (-1)) dX3_flushMemory_32 (by decide) ?_
  obtain ⟨y7, ey7, hf⟩ := ob hf
  obtain ⟨fsy7, hoy7⟩ := o_X3_startOf ey7
  refine sp_callVi (pc := 33) (z := M_X3_startOf) (As := [.int (-1)]) (b := v0) (bc2 := bc) (bs2 := bs) (m_X3_startOf (Q := _) (fun sz => ⟨y7, rfl, ?_⟩) ey7) rfl dX3_flushMemory_33 hoy7 rfl rfl ck_X3_flushMemory_69 (Nat.le_of_ble_eq_true rfl) rfl rfl rfl
  refine sp_aload_n (pc := 36) dX3_flushMemory_36 1 rfl ?_
  refine sp_iconst (pc := 37) (v := (-1)) dX3_flushMemory_37 (by decide) ?_
  obtain ⟨y8, ey8, hf⟩ := ob hf
  obtain ⟨fsy8, hoy8⟩ := o_X3_endOf ey8
  refine sp_callVi (pc := 38) (z := M_X3_endOf) (As := [.int (-1)]) (b := v0) (bc2 := bc) (bs2 := bs) (m_X3_endOf (Q := _) (fun sz => ⟨y8, rfl, ?_⟩) ey8) rfl dX3_flushMemory_38 hoy8 rfl rfl ck_X3_flushMemory_65 (Nat.le_of_ble_eq_true rfl) rfl rfl rfl
  refine sp_aload_n (pc := 41) dX3_flushMemory_41 1 rfl ?_
  obtain ⟨x9, ex9, hf⟩ := ob hf
  refine sp_gR (pc := 42) fl_RX3_18 dX3_flushMemory_42 ex9 ?_
  obtain ⟨x10, ex10, hf⟩ := ob hf
  refine sp_gR (pc := 45) fl_RX3_122 dX3_flushMemory_45 ex10 ?_
  obtain ⟨y11, ey11, hf⟩ := ob hf
  obtain ⟨fsy11, hoy11⟩ := o_X6_replace ey11
  refine sp_callVv (pc := 48) (z := M_X6_replace) (As := [.int y7, .int y8, .ref x10]) (b := x6) (bc2 := bc) (bs2 := bs) (m_X6_replace (Q := _) (fun sz => ⟨(), rfl, ?_⟩) ey11) rfl dX3_flushMemory_48 hoy11 rfl rfl ck_X3_flushMemory_51 (Nat.le_of_ble_eq_true rfl) rfl rfl rfl
  refine sp_iload_n (pc := 51) dX3_flushMemory_51 0 rfl ?_
  refine sp_if_le (pc := 52) (tgt := 93) dX3_flushMemory_52 (by decide) (fun c12 => ?_) (fun c12 => ?_)
  · rw [if_pos c12] at hf
    refine sp_iload_n (pc := 93) dX3_flushMemory_93 0 rfl ?_
    obtain rfl := Option.some.inj hf
    exact sp_ireturn (pc := 94) dX3_flushMemory_94 rfl rfl (hQ _)
  · rw [if_neg c12] at hf
    refine sp_aload_n (pc := 55) dX3_flushMemory_55 1 rfl ?_
    obtain ⟨x13, ex13, hf⟩ := ob hf
    refine sp_gI (pc := 56) fl_RX3_34 dX3_flushMemory_56 ex13 ?_
    refine sp_aload_n (pc := 59) dX3_flushMemory_59 1 rfl ?_
    obtain ⟨x14, ex14, hf⟩ := ob hf
    refine sp_gR (pc := 60) fl_RX3_9 dX3_flushMemory_60 ex14 ?_
    obtain ⟨x15, ex15, hf⟩ := ob hf
    refine sp_aN (pc := 63) dX3_flushMemory_63 ex15 ?_
    refine sp_icmp_ge (pc := 64) (tgt := 93) dX3_flushMemory_64 (by decide) (fun c16 => ?_) (fun c16 => ?_)
    · rw [if_pos c16] at hf
      refine sp_iload_n (pc := 93) dX3_flushMemory_93 0 rfl ?_
      obtain rfl := Option.some.inj hf
      exact sp_ireturn (pc := 94) dX3_flushMemory_94 rfl rfl (hQ _)
    · rw [if_neg c16] at hf
      refine sp_aload_n (pc := 67) dX3_flushMemory_67 1 rfl ?_
      obtain ⟨x17, ex17, hf⟩ := ob hf
      refine sp_gR (pc := 68) fl_RX3_9 dX3_flushMemory_68 ex17 ?_
      refine sp_aload_n (pc := 71) dX3_flushMemory_71 1 rfl ?_
      obtain ⟨x18, ex18, hf⟩ := ob hf
      refine sp_gI (pc := 72) fl_RX3_34 dX3_flushMemory_72 ex18 ?_
      refine sp_aload_n (pc := 75) dX3_flushMemory_75 1 rfl ?_
      obtain ⟨x19, ex19, hf⟩ := ob hf
      refine sp_gR (pc := 76) fl_RX3_27 dX3_flushMemory_76 ex19 ?_
      obtain ⟨y20, ey20, hf⟩ := ob hf
      obtain ⟨fsy20, hoy20⟩ := o_X6_size ey20
      refine sp_callVi (pc := 79) (z := M_X6_size) (As := []) (b := x19) (bc2 := bc) (bs2 := bs) (m_X6_size (Q := _) (fun sz => ⟨y20, rfl, ?_⟩) ey20) rfl dX3_flushMemory_79 hoy20 rfl rfl ck_X3_flushMemory_47 (Nat.le_of_ble_eq_true rfl) rfl rfl rfl
      obtain ⟨h21, eh21, hf⟩ := ob hf
      refine sp_wI (pc := 82) dX3_flushMemory_82 eh21 (fun sz => ?_)
      refine sp_aload_n (pc := 83) dX3_flushMemory_83 1 rfl ?_
      refine sp_dup (pc := 84) dX3_flushMemory_84 rfl ?_
      obtain ⟨x22, ex22, hf⟩ := ob hf
      refine sp_gI (pc := 85) fl_RX3_34 dX3_flushMemory_85 ex22 ?_
      refine sp_iconst (pc := 88) (v := 1) dX3_flushMemory_88 (by decide) ?_
      refine sp_iadd (pc := 89) dX3_flushMemory_89 ?_
      obtain ⟨h23, eh23, hf⟩ := ob hf
      refine sp_pI (pc := 90) pf_RX3_34 dX3_flushMemory_90 eh23 (fun sz => ?_)
      refine sp_iload_n (pc := 93) dX3_flushMemory_93 0 rfl ?_
      obtain rfl := Option.some.inj hf
      exact sp_ireturn (pc := 94) dX3_flushMemory_94 rfl rfl (hQ _)

theorem o_X3_flushMemory {h : HP} {v0 : Nat} {res : Int32 × HP} (hf : f_X3_flushMemory h v0 = some res) : ∃ fs, h v0 = some (.inr (3, fs)) := by
  obtain ⟨u, eu, -⟩ := ob hf
  exact kO_spec eu

theorem m_X3_flushMemory {l : Launch} {Q : PST} {h : HP} {v0 : Nat} {sz : Nat} {res : Int32 × HP} (hQ : ∀ sz', Q (.inl (some (.int res.1))) res.2 sz') (hf : f_X3_flushMemory h v0 = some res) : MM l M_X3_flushMemory [.ref v0] h sz Q := by
  obtain ⟨u, eu, hf⟩ := ob hf
  exact MM_of wok_X3_flushMemory (by decide +kernel) (Nat.le_of_ble_eq_true rfl) ((w_X3_flushMemory_0 hQ hf))

theorem dX3_mergeRuns_0 : decode (mB M_X3_mergeRuns) 0 = .ok (.aload_n 0, 1) := by decide +kernel
theorem dX3_mergeRuns_1 : decode (mB M_X3_mergeRuns) 1 = .ok (.getfield 34, 3) := by decide +kernel
theorem dX3_mergeRuns_4 : decode (mB M_X3_mergeRuns) 4 = .ok (.iconst 2, 1) := by decide +kernel
theorem dX3_mergeRuns_5 : decode (mB M_X3_mergeRuns) 5 = .ok (.isub, 1) := by decide +kernel
theorem dX3_mergeRuns_6 : decode (mB M_X3_mergeRuns) 6 = .ok (.iload_n 1, 1) := by decide +kernel
theorem dX3_mergeRuns_7 : decode (mB M_X3_mergeRuns) 7 = .ok (.isub, 1) := by decide +kernel
theorem dX3_mergeRuns_8 : decode (mB M_X3_mergeRuns) 8 = .ok (.istore_n 2, 1) := by decide +kernel
theorem dX3_mergeRuns_9 : decode (mB M_X3_mergeRuns) 9 = .ok (.iload_n 2, 1) := by decide +kernel
theorem dX3_mergeRuns_10 : decode (mB M_X3_mergeRuns) 10 = .ok (.ifCond .lt 7, 3) := by decide +kernel
theorem dX3_mergeRuns_13 : decode (mB M_X3_mergeRuns) 13 = .ok (.iload_n 1, 1) := by decide +kernel
theorem dX3_mergeRuns_14 : decode (mB M_X3_mergeRuns) 14 = .ok (.ifCond .ge 5, 3) := by decide +kernel
theorem dX3_mergeRuns_17 : decode (mB M_X3_mergeRuns) 17 = .ok (.iconst 0, 1) := by decide +kernel
theorem dX3_mergeRuns_18 : decode (mB M_X3_mergeRuns) 18 = .ok (.ireturn, 1) := by decide +kernel
theorem dX3_mergeRuns_19 : decode (mB M_X3_mergeRuns) 19 = .ok (.aload_n 0, 1) := by decide +kernel
theorem dX3_mergeRuns_20 : decode (mB M_X3_mergeRuns) 20 = .ok (.getfield 18, 3) := by decide +kernel
theorem dX3_mergeRuns_23 : decode (mB M_X3_mergeRuns) 23 = .ok (.aload_n 0, 1) := by decide +kernel
theorem dX3_mergeRuns_24 : decode (mB M_X3_mergeRuns) 24 = .ok (.iload_n 1, 1) := by decide +kernel
theorem dX3_mergeRuns_25 : decode (mB M_X3_mergeRuns) 25 = .ok (.iload_n 1, 1) := by decide +kernel
theorem dX3_mergeRuns_26 : decode (mB M_X3_mergeRuns) 26 = .ok (.iconst 1, 1) := by decide +kernel
theorem dX3_mergeRuns_27 : decode (mB M_X3_mergeRuns) 27 = .ok (.iadd, 1) := by decide +kernel
theorem dX3_mergeRuns_28 : decode (mB M_X3_mergeRuns) 28 = .ok (.invokevirtual 112, 3) := by decide +kernel
theorem dX3_mergeRuns_31 : decode (mB M_X3_mergeRuns) 31 = .ok (.istore_n 3, 1) := by decide +kernel
theorem dX3_mergeRuns_32 : decode (mB M_X3_mergeRuns) 32 = .ok (.aload_n 0, 1) := by decide +kernel
theorem dX3_mergeRuns_33 : decode (mB M_X3_mergeRuns) 33 = .ok (.iload_n 1, 1) := by decide +kernel
theorem dX3_mergeRuns_34 : decode (mB M_X3_mergeRuns) 34 = .ok (.invokevirtual 109, 3) := by decide +kernel
theorem dX3_mergeRuns_37 : decode (mB M_X3_mergeRuns) 37 = .ok (.aload_n 0, 1) := by decide +kernel
theorem dX3_mergeRuns_38 : decode (mB M_X3_mergeRuns) 38 = .ok (.iload_n 1, 1) := by decide +kernel
theorem dX3_mergeRuns_39 : decode (mB M_X3_mergeRuns) 39 = .ok (.iconst 1, 1) := by decide +kernel
theorem dX3_mergeRuns_40 : decode (mB M_X3_mergeRuns) 40 = .ok (.iadd, 1) := by decide +kernel
theorem dX3_mergeRuns_41 : decode (mB M_X3_mergeRuns) 41 = .ok (.invokevirtual 109, 3) := by decide +kernel
theorem dX3_mergeRuns_44 : decode (mB M_X3_mergeRuns) 44 = .ok (.iadd, 1) := by decide +kernel
theorem dX3_mergeRuns_45 : decode (mB M_X3_mergeRuns) 45 = .ok (.iload_n 3, 1) := by decide +kernel
theorem dX3_mergeRuns_46 : decode (mB M_X3_mergeRuns) 46 = .ok (.isub, 1) := by decide +kernel
theorem dX3_mergeRuns_47 : decode (mB M_X3_mergeRuns) 47 = .ok (.istore 4, 2) := by decide +kernel
theorem dX3_mergeRuns_49 : decode (mB M_X3_mergeRuns) 49 = .ok (.aload_n 0, 1) := by decide +kernel
theorem dX3_mergeRuns_50 : decode (mB M_X3_mergeRuns) 50 = .ok (.getfield 27, 3) := by decide +kernel
theorem dX3_mergeRuns_53 : decode (mB M_X3_mergeRuns) 53 = .ok (.aload_n 0, 1) := by decide +kernel
theorem dX3_mergeRuns_54 : decode (mB M_X3_mergeRuns) 54 = .ok (.iload_n 1, 1) := by decide +kernel
theorem dX3_mergeRuns_55 : decode (mB M_X3_mergeRuns) 55 = .ok (.iconst 1, 1) := by decide +kernel
theorem dX3_mergeRuns_56 : decode (mB M_X3_mergeRuns) 56 = .ok (.iadd, 1) := by decide +kernel
theorem dX3_mergeRuns_57 : decode (mB M_X3_mergeRuns) 57 = .ok (.invokevirtual 69, 3) := by decide +kernel
theorem dX3_mergeRuns_60 : decode (mB M_X3_mergeRuns) 60 = .ok (.aload_n 0, 1) := by decide +kernel
theorem dX3_mergeRuns_61 : decode (mB M_X3_mergeRuns) 61 = .ok (.iload_n 1, 1) := by decide +kernel
theorem dX3_mergeRuns_62 : decode (mB M_X3_mergeRuns) 62 = .ok (.invokevirtual 65, 3) := by decide +kernel
theorem dX3_mergeRuns_65 : decode (mB M_X3_mergeRuns) 65 = .ok (.aload_n 0, 1) := by decide +kernel
theorem dX3_mergeRuns_66 : decode (mB M_X3_mergeRuns) 66 = .ok (.getfield 18, 3) := by decide +kernel
theorem dX3_mergeRuns_69 : decode (mB M_X3_mergeRuns) 69 = .ok (.getfield 122, 3) := by decide +kernel
theorem dX3_mergeRuns_72 : decode (mB M_X3_mergeRuns) 72 = .ok (.invokevirtual 51, 3) := by decide +kernel
theorem dX3_mergeRuns_75 : decode (mB M_X3_mergeRuns) 75 = .ok (.aload_n 0, 1) := by decide +kernel
theorem dX3_mergeRuns_76 : decode (mB M_X3_mergeRuns) 76 = .ok (.dup, 1) := by decide +kernel
theorem dX3_mergeRuns_77 : decode (mB M_X3_mergeRuns) 77 = .ok (.getfield 44, 3) := by decide +kernel
theorem dX3_mergeRuns_80 : decode (mB M_X3_mergeRuns) 80 = .ok (.iload 4, 2) := by decide +kernel
theorem dX3_mergeRuns_82 : decode (mB M_X3_mergeRuns) 82 = .ok (.iadd, 1) := by decide +kernel
theorem dX3_mergeRuns_83 : decode (mB M_X3_mergeRuns) 83 = .ok (.putfield 44, 3) := by decide +kernel
theorem dX3_mergeRuns_86 : decode (mB M_X3_mergeRuns) 86 = .ok (.iload_n 3, 1) := by decide +kernel
theorem dX3_mergeRuns_87 : decode (mB M_X3_mergeRuns) 87 = .ok (.ifCond .le 7, 3) := by decide +kernel
theorem dX3_mergeRuns_90 : decode (mB M_X3_mergeRuns) 90 = .ok (.iconst 1, 1) := by decide +kernel
theorem dX3_mergeRuns_91 : decode (mB M_X3_mergeRuns) 91 = .ok (.goto 4, 3) := by decide +kernel
theorem dX3_mergeRuns_94 : decode (mB M_X3_mergeRuns) 94 = .ok (.iconst 2, 1) := by decide +kernel
theorem dX3_mergeRuns_95 : decode (mB M_X3_mergeRuns) 95 = .ok (.istore 5, 2) := by decide +kernel
theorem dX3_mergeRuns_97 : decode (mB M_X3_mergeRuns) 97 = .ok (.iload_n 2, 1) := by decide +kernel
theorem dX3_mergeRuns_98 : decode (mB M_X3_mergeRuns) 98 = .ok (.istore 6, 2) := by decide +kernel
theorem dX3_mergeRuns_100 : decode (mB M_X3_mergeRuns) 100 = .ok (.iload 6, 2) := by decide +kernel
theorem dX3_mergeRuns_102 : decode (mB M_X3_mergeRuns) 102 = .ok (.iload 5, 2) := by decide +kernel
theorem dX3_mergeRuns_104 : decode (mB M_X3_mergeRuns) 104 = .ok (.iadd, 1) := by decide +kernel
theorem dX3_mergeRuns_105 : decode (mB M_X3_mergeRuns) 105 = .ok (.aload_n 0, 1) := by decide +kernel
theorem dX3_mergeRuns_106 : decode (mB M_X3_mergeRuns) 106 = .ok (.getfield 34, 3) := by decide +kernel
theorem dX3_mergeRuns_109 : decode (mB M_X3_mergeRuns) 109 = .ok (.if_icmp .ge 29, 3) := by decide +kernel
theorem dX3_mergeRuns_112 : decode (mB M_X3_mergeRuns) 112 = .ok (.aload_n 0, 1) := by decide +kernel
theorem dX3_mergeRuns_113 : decode (mB M_X3_mergeRuns) 113 = .ok (.getfield 9, 3) := by decide +kernel
theorem dX3_mergeRuns_116 : decode (mB M_X3_mergeRuns) 116 = .ok (.iload 6, 2) := by decide +kernel
theorem dX3_mergeRuns_118 : decode (mB M_X3_mergeRuns) 118 = .ok (.aload_n 0, 1) := by decide +kernel
theorem dX3_mergeRuns_119 : decode (mB M_X3_mergeRuns) 119 = .ok (.getfield 9, 3) := by decide +kernel
theorem dX3_mergeRuns_122 : decode (mB M_X3_mergeRuns) 122 = .ok (.iload 6, 2) := by decide +kernel
theorem dX3_mergeRuns_124 : decode (mB M_X3_mergeRuns) 124 = .ok (.iload 5, 2) := by decide +kernel
theorem dX3_mergeRuns_126 : decode (mB M_X3_mergeRuns) 126 = .ok (.iadd, 1) := by decide +kernel
theorem dX3_mergeRuns_127 : decode (mB M_X3_mergeRuns) 127 = .ok (.iaload, 1) := by decide +kernel
theorem dX3_mergeRuns_128 : decode (mB M_X3_mergeRuns) 128 = .ok (.iload 4, 2) := by decide +kernel
theorem dX3_mergeRuns_130 : decode (mB M_X3_mergeRuns) 130 = .ok (.isub, 1) := by decide +kernel
theorem dX3_mergeRuns_131 : decode (mB M_X3_mergeRuns) 131 = .ok (.iastore, 1) := by decide +kernel
theorem dX3_mergeRuns_132 : decode (mB M_X3_mergeRuns) 132 = .ok (.iinc 6 1, 3) := by decide +kernel
theorem dX3_mergeRuns_135 : decode (mB M_X3_mergeRuns) 135 = .ok (.goto (-35), 3) := by decide +kernel
theorem dX3_mergeRuns_138 : decode (mB M_X3_mergeRuns) 138 = .ok (.aload_n 0, 1) := by decide +kernel
theorem dX3_mergeRuns_139 : decode (mB M_X3_mergeRuns) 139 = .ok (.dup, 1) := by decide +kernel
theorem dX3_mergeRuns_140 : decode (mB M_X3_mergeRuns) 140 = .ok (.getfield 34, 3) := by decide +kernel
theorem dX3_mergeRuns_143 : decode (mB M_X3_mergeRuns) 143 = .ok (.iload 5, 2) := by decide +kernel
theorem dX3_mergeRuns_145 : decode (mB M_X3_mergeRuns) 145 = .ok (.isub, 1) := by decide +kernel
theorem dX3_mergeRuns_146 : decode (mB M_X3_mergeRuns) 146 = .ok (.putfield 34, 3) := by decide +kernel
theorem dX3_mergeRuns_149 : decode (mB M_X3_mergeRuns) 149 = .ok (.iload_n 3, 1) := by decide +kernel
theorem dX3_mergeRuns_150 : decode (mB M_X3_mergeRuns) 150 = .ok (.ireturn, 1) := by decide +kernel
def c_X3_mergeRuns_100 (v0 : Nat) (k100 : HP → Int32 → Int32 → Int32 → Int32 → Option (Int32 × HP)) (h : HP) (v3 : Int32) (v4 : Int32) (v5 : Int32) (v6 : Int32) : Option (Int32 × HP) :=
  (gI 3 4 h v0).bind fun x1 => if x1 ≤ (v6 + v5) then (gI 3 4 h v0).bind fun x3 => (pI 3 4 h v0 (x3 - v5)).bind fun h4 => some (v3, h4) else (gR 3 2 h v0).bind fun x5 => (gR 3 2 h v0).bind fun x6 => (aI h x6 (v6 + v5)).bind fun x7 => (wI h x5 v6 (x7 - v4)).bind fun h8 => k100 h8 v3 v4 v5 (v6 + 1)
def b_X3_mergeRuns_100 (v0 : Nat) : Nat → HP → Int32 → Int32 → Int32 → Int32 → Option (Int32 × HP)
  | 0, _, _, _, _, _ => none
  | n + 1, h, v3, v4, v5, v6 => c_X3_mergeRuns_100 v0 (b_X3_mergeRuns_100 v0 n) h v3 v4 v5 v6
def b_X3_mergeRuns_0 (v0 : Nat) (v1 : Int32) (h : HP) : Option (Int32 × HP) :=
  (gI 3 4 h v0).bind fun x1 => if ((x1 - 2) - v1) < 0 then some (0, h) else if 0 ≤ v1 then (gR 3 0 h v0).bind fun x4 => (f_X0_clean h x4 v0 v1 (v1 + 1)).bind fun y5 => (f_X3_sizeOf y5.2 v0 v1).bind fun y6 => (f_X3_sizeOf y5.2 v0 (v1 + 1)).bind fun y7 => (gR 3 1 y5.2 v0).bind fun x8 => (f_X3_startOf y5.2 v0 (v1 + 1)).bind fun y9 => (f_X3_endOf y5.2 v0 v1).bind fun y10 => (gR 3 0 y5.2 v0).bind fun x11 => (gR 0 0 y5.2 x11).bind fun x12 => (f_X6_replace y5.2 x8 y9 y10 x12).bind fun y13 => (gI 3 7 y13 v0).bind fun x14 => (pI 3 7 y13 v0 (x14 + ((y6 + y7) - y5.1))).bind fun h15 => if y5.1 ≤ 0 then b_X3_mergeRuns_100 v0 FU h15 y5.1 ((y6 + y7) - y5.1) 2 ((x1 - 2) - v1) else b_X3_mergeRuns_100 v0 FU h15 y5.1 ((y6 + y7) - y5.1) 1 ((x1 - 2) - v1) else some (0, h)
def f_X3_mergeRuns (h : HP) (v0 : Nat) (v1 : Int32) : Option (Int32 × HP) := (kO 3 h v0).bind fun _ => b_X3_mergeRuns_0 v0 v1 h
theorem wc_X3_mergeRuns_100 {l : Launch} {X : SCR} {Q : PST} {bc bs : Nat} {res : Int32 × HP} (hQ : ∀ sz', Q (.inl (some (.int res.1))) res.2 sz') {v0 : Nat} {k100 : HP → Int32 → Int32 → Int32 → Int32 → Option (Int32 × HP)} (hk100 : ∀ (h : HP) (v3 : Int32) (v4 : Int32) (v5 : Int32) (v6 : Int32) (sz : Nat), k100 h v3 v4 v5 v6 = some res → SP l X M_X3_mergeRuns 100 [(0, .ref v0), (3, .int v3), (4, .int v4), (5, .int v5), (6, .int v6)] [] h sz bc bs Q) {h : HP} {v3 : Int32} {v4 : Int32} {v5 : Int32} {v6 : Int32} {sz : Nat} (hf : c_X3_mergeRuns_100 v0 k100 h v3 v4 v5 v6 = some res) : SP l X M_X3_mergeRuns 100 [(0, .ref v0), (3, .int v3), (4, .int v4), (5, .int v5), (6, .int v6)] [] h sz bc bs Q := by
  rw [c_X3_mergeRuns_100] at hf
  refine sp_iload (pc := 100) dX3_mergeRuns_100 4 rfl ?_
  refine sp_iload (pc := 102) dX3_mergeRuns_102 3 rfl ?_
  refine sp_iadd (pc := 104) dX3_mergeRuns_104 ?_
  refine sp_aload_n (pc := 105) dX3_mergeRuns_105 0 rfl ?_
  obtain ⟨x1, ex1, hf⟩ := ob hf
  refine sp_gI (pc := 106) fl_RX3_34 dX3_mergeRuns_106 ex1 ?_
  refine sp_icmp_ge (pc := 109) (tgt := 138) dX3_mergeRuns_109 (by decide) (fun c2 => ?_) (fun c2 => ?_)
  · rw [if_pos c2] at hf
    refine sp_aload_n (pc := 138) dX3_mergeRuns_138 0 rfl ?_
    refine sp_dup (pc := 139) dX3_mergeRuns_139 rfl ?_
    obtain ⟨x3, ex3, hf⟩ := ob hf
    refine sp_gI (pc := 140) fl_RX3_34 dX3_mergeRuns_140 ex3 ?_
    refine sp_iload (pc := 143) dX3_mergeRuns_143 3 rfl ?_
    refine sp_isub (pc := 145) dX3_mergeRuns_145 ?_
    obtain ⟨h4, eh4, hf⟩ := ob hf
    refine sp_pI (pc := 146) pf_RX3_34 dX3_mergeRuns_146 eh4 (fun sz => ?_)
    refine sp_iload_n (pc := 149) dX3_mergeRuns_149 1 rfl ?_
    obtain rfl := Option.some.inj hf
    exact sp_ireturn (pc := 150) dX3_mergeRuns_150 rfl rfl (hQ _)
  · rw [if_neg c2] at hf
    refine sp_aload_n (pc := 112) dX3_mergeRuns_112 0 rfl ?_
    obtain ⟨x5, ex5, hf⟩ := ob hf
    refine sp_gR (pc := 113) fl_RX3_9 dX3_mergeRuns_113 ex5 ?_
    refine sp_iload (pc := 116) dX3_mergeRuns_116 4 rfl ?_
    refine sp_aload_n (pc := 118) dX3_mergeRuns_118 0 rfl ?_
    obtain ⟨x6, ex6, hf⟩ := ob hf
    refine sp_gR (pc := 119) fl_RX3_9 dX3_mergeRuns_119 ex6 ?_
    refine sp_iload (pc := 122) dX3_mergeRuns_122 4 rfl ?_
    refine sp_iload (pc := 124) dX3_mergeRuns_124 3 rfl ?_
    refine sp_iadd (pc := 126) dX3_mergeRuns_126 ?_
    obtain ⟨x7, ex7, hf⟩ := ob hf
    refine sp_aI (pc := 127) dX3_mergeRuns_127 ex7 ?_
    refine sp_iload (pc := 128) dX3_mergeRuns_128 2 rfl ?_
    refine sp_isub (pc := 130) dX3_mergeRuns_130 ?_
    obtain ⟨h8, eh8, hf⟩ := ob hf
    refine sp_wI (pc := 131) dX3_mergeRuns_131 eh8 (fun sz => ?_)
    refine sp_iinc (pc := 132) (v := v6 + 1) (lv' := [(6, .int (v6 + 1)), (0, .ref v0), (3, .int v3), (4, .int v4), (5, .int v5)]) dX3_mergeRuns_132 4 rfl rfl (by decide) rfl ?_
    refine sp_goto (pc := 135) (tgt := 100) dX3_mergeRuns_135 (by decide) ?_
    exact sp_sub [1, 2, 3, 4, 0] rfl (hk100 _ _ _ _ _ _ hf)

theorem w_X3_mergeRuns_100 {l : Launch} {X : SCR} {Q : PST} {bc bs : Nat} {res : Int32 × HP} (hQ : ∀ sz', Q (.inl (some (.int res.1))) res.2 sz') {v0 : Nat} : ∀ (n : Nat) {h : HP} {v3 : Int32} {v4 : Int32} {v5 : Int32} {v6 : Int32} {sz : Nat}, b_X3_mergeRuns_100 v0 n h v3 v4 v5 v6 = some res → SP l X M_X3_mergeRuns 100 [(0, .ref v0), (3, .int v3), (4, .int v4), (5, .int v5), (6, .int v6)] [] h sz bc bs Q := by
  intro n
  induction n with
  | zero =>
    intro h v3 v4 v5 v6 sz hf
    rw [b_X3_mergeRuns_100] at hf
    cases hf
  | succ n ih =>
    intro h v3 v4 v5 v6 sz hf
    rw [b_X3_mergeRuns_100] at hf
    exact wc_X3_mergeRuns_100 hQ (fun h v3 v4 v5 v6 sz hf => ih hf) hf

theorem w_X3_mergeRuns_0 {l : Launch} {X : SCR} {Q : PST} {bc bs : Nat} {res : Int32 × HP} {h : HP} (hQ : ∀ sz', Q (.inl (some (.int res.1))) res.2 sz') {v0 : Nat} {v1 : Int32} {sz : Nat} (hf : b_X3_mergeRuns_0 v0 v1 h  = some res) : SP l X M_X3_mergeRuns 0 [(0, .ref v0), (1, .int v1)] [] h sz bc bs Q := by
  rw [b_X3_mergeRuns_0] at hf
  refine sp_aload_n (pc := 0) dX3_mergeRuns_0 0 rfl ?_
  obtain ⟨x1, ex1, hf⟩ := ob hf
  refine sp_gI (pc := 1) fl_RX3_34 dX3_mergeRuns_1 ex1 ?_
  refine sp_iconst (pc := 4) (v := 2) dX3_mergeRuns_4 (by decide) ?_
  refine sp_isub (pc := 5) dX3_mergeRuns_5 ?_
  refine sp_iload_n (pc := 6) dX3_mergeRuns_6 1 rfl ?_
  refine sp_isub (pc := 7) dX3_mergeRuns_7 ?_
  refine sp_istore_n (pc := 8) (lv' := [(2, .int ((x1 - 2) - v1)), (0, .ref v0), (1, .int v1)]) dX3_mergeRuns_8 (by decide) rfl ?_
  refine sp_iload_n (pc := 9) dX3_mergeRuns_9 0 rfl ?_
  refine sp_if_lt (pc := 10) (tgt := 17) dX3_mergeRuns_10 (by decide) (fun c2 => ?_) (fun c2 => ?_)
  · rw [if_pos c2] at hf
    refine sp_iconst (pc := 17) (v := 0) dX3_mergeRuns_17 (by decide) ?_
    obtain rfl := Option.some.inj hf
    exact sp_ireturn (pc := 18) dX3_mergeRuns_18 rfl rfl (hQ _)
  · rw [if_neg c2] at hf
    refine sp_iload_n (pc := 13) dX3_mergeRuns_13 2 rfl ?_
    refine sp_if_ge (pc := 14) (tgt := 19) dX3_mergeRuns_14 (by decide) (fun c3 => ?_) (fun c3 => ?_)
    · rw [if_pos c3] at hf
      refine sp_aload_n (pc := 19) dX3_mergeRuns_19 1 rfl ?_
      obtain ⟨x4, ex4, hf⟩ := ob hf
      refine sp_gR (pc := 20) fl_RX3_18 dX3_mergeRuns_20 ex4 ?_
      refine sp_aload_n (pc := 23) dX3_mergeRuns_23 1 rfl ?_
      refine sp_iload_n (pc := 24) dX3_mergeRuns_24 2 rfl ?_
      refine sp_iload_n (pc := 25) dX3_mergeRuns_25 2 rfl ?_
      refine sp_iconst (pc := 26) (v := 1) dX3_mergeRuns_26 (by decide) ?_
      refine sp_iadd (pc := 27) dX3_mergeRuns_27 ?_
      obtain ⟨y5, ey5, hf⟩ := ob hf
      obtain ⟨fsy5, hoy5⟩ := o_X0_clean ey5
      refine sp_callVi (pc := 28) (z := M_X0_clean) (As := [.ref v0, .int v1, .int (v1 + 1)]) (b := x4) (bc2 := bc) (bs2 := bs) (m_X0_clean (Q := _) (fun sz => ⟨y5.1, rfl, ?_⟩) ey5) rfl dX3_mergeRuns_28 hoy5 rfl rfl ck_X3_mergeRuns_112 (Nat.le_of_ble_eq_true rfl) rfl rfl rfl
      refine sp_istore_n (pc := 31) (lv' := [(3, .int y5.1), (2, .int ((x1 - 2) - v1)), (0, .ref v0), (1, .int v1)]) dX3_mergeRuns_31 (by decide) rfl ?_
      refine sp_aload_n (pc := 32) dX3_mergeRuns_32 2 rfl ?_
      refine sp_iload_n (pc := 33) dX3_mergeRuns_33 3 rfl ?_
      obtain ⟨y6, ey6, hf⟩ := ob hf
      obtain ⟨fsy6, hoy6⟩ := o_X3_sizeOf ey6
      refine sp_callVi (pc := 34) (z := M_X3_sizeOf) (As := [.int v1]) (b := v0) (bc2 := bc) (bs2 := bs) (m_X3_sizeOf (Q := _) (fun sz => ⟨y6, rfl, ?_⟩) ey6) rfl dX3_mergeRuns_34 hoy6 rfl rfl ck_X3_mergeRuns_109 (Nat.le_of_ble_eq_true rfl) rfl rfl rfl
      refine sp_aload_n (pc := 37) dX3_mergeRuns_37 2 rfl ?_
      refine sp_iload_n (pc := 38) dX3_mergeRuns_38 3 rfl ?_
      refine sp_iconst (pc := 39) (v := 1) dX3_mergeRuns_39 (by decide) ?_
      refine sp_iadd (pc := 40) dX3_mergeRuns_40 ?_
      obtain ⟨y7, ey7, hf⟩ := ob hf
      obtain ⟨fsy7, hoy7⟩ := o_X3_sizeOf ey7
      refine sp_callVi (pc := 41) (z := M_X3_sizeOf) (As := [.int (v1 + 1)]) (b := v0) (bc2 := bc) (bs2 := bs) (m_X3_sizeOf (Q := _) (fun sz => ⟨y7, rfl, ?_⟩) ey7) rfl dX3_mergeRuns_41 hoy7 rfl rfl ck_X3_mergeRuns_109 (Nat.le_of_ble_eq_true rfl) rfl rfl rfl
      refine sp_iadd (pc := 44) dX3_mergeRuns_44 ?_
      refine sp_iload_n (pc := 45) dX3_mergeRuns_45 0 rfl ?_
      refine sp_isub (pc := 46) dX3_mergeRuns_46 ?_
      refine sp_istore (pc := 47) (lv' := [(4, .int ((y6 + y7) - y5.1)), (3, .int y5.1), (2, .int ((x1 - 2) - v1)), (0, .ref v0), (1, .int v1)]) dX3_mergeRuns_47 (by decide) rfl ?_
      refine sp_aload_n (pc := 49) dX3_mergeRuns_49 3 rfl ?_
      obtain ⟨x8, ex8, hf⟩ := ob hf
      refine sp_gR (pc := 50) fl_RX3_27 dX3_mergeRuns_50 ex8 ?_
      refine sp_aload_n (pc := 53) dX3_mergeRuns_53 3 rfl ?_
      refine sp_iload_n (pc := 54) dX3_mergeRuns_54 4 rfl ?_
      refine sp_iconst (pc := 55) (v := 1) dX3_mergeRuns_55 (by decide) ?_
      refine sp_iadd (pc := 56) dX3_mergeRuns_56 ?_
      obtain ⟨y9, ey9, hf⟩ := ob hf
      obtain ⟨fsy9, hoy9⟩ := o_X3_startOf ey9
      refine sp_callVi (pc := 57) (z := M_X3_startOf) (As := [.int (v1 + 1)]) (b := v0) (bc2 := bc) (bs2 := bs) (m_X3_startOf (Q := _) (fun sz => ⟨y9, rfl, ?_⟩) ey9) rfl dX3_mergeRuns_57 hoy9 rfl rfl ck_X3_mergeRuns_69 (Nat.le_of_ble_eq_true rfl) rfl rfl rfl
      refine sp_aload_n (pc := 60) dX3_mergeRuns_60 3 rfl ?_
      refine sp_iload_n (pc := 61) dX3_mergeRuns_61 4 rfl ?_
      obtain ⟨y10, ey10, hf⟩ := ob hf
      obtain ⟨fsy10, hoy10⟩ := o_X3_endOf ey10
      refine sp_callVi (pc := 62) (z := M_X3_endOf) (As := [.int v1]) (b := v0) (bc2 := bc) (bs2 := bs) (m_X3_endOf (Q := _) (fun sz => ⟨y10, rfl, ?_⟩) ey10) rfl dX3_mergeRuns_62 hoy10 rfl rfl ck_X3_mergeRuns_65 (Nat.le_of_ble_eq_true rfl) rfl rfl rfl
      refine sp_aload_n (pc := 65) dX3_mergeRuns_65 3 rfl ?_
      obtain ⟨x11, ex11, hf⟩ := ob hf
      refine sp_gR (pc := 66) fl_RX3_18 dX3_mergeRuns_66 ex11 ?_
      obtain ⟨x12, ex12, hf⟩ := ob hf
      refine sp_gR (pc := 69) fl_RX3_122 dX3_mergeRuns_69 ex12 ?_
      obtain ⟨y13, ey13, hf⟩ := ob hf
      obtain ⟨fsy13, hoy13⟩ := o_X6_replace ey13
      refine sp_callVv (pc := 72) (z := M_X6_replace) (As := [.int y9, .int y10, .ref x12]) (b := x8) (bc2 := bc) (bs2 := bs) (m_X6_replace (Q := _) (fun sz => ⟨(), rfl, ?_⟩) ey13) rfl dX3_mergeRuns_72 hoy13 rfl rfl ck_X3_mergeRuns_51 (Nat.le_of_ble_eq_true rfl) rfl rfl rfl
      refine sp_aload_n (pc := 75) dX3_mergeRuns_75 3 rfl ?_
      refine sp_dup (pc := 76) dX3_mergeRuns_76 rfl ?_
      obtain ⟨x14, ex14, hf⟩ := ob hf
      refine sp_gI (pc := 77) fl_RX3_44 dX3_mergeRuns_77 ex14 ?_
      refine sp_iload (pc := 80) dX3_mergeRuns_80 0 rfl ?_
      refine sp_iadd (pc := 82) dX3_mergeRuns_82 ?_
      obtain ⟨h15, eh15, hf⟩ := ob hf
      refine sp_pI (pc := 83) pf_RX3_44 dX3_mergeRuns_83 eh15 (fun sz => ?_)
      refine sp_iload_n (pc := 86) dX3_mergeRuns_86 1 rfl ?_
      refine sp_if_le (pc := 87) (tgt := 94) dX3_mergeRuns_87 (by decide) (fun c16 => ?_) (fun c16 => ?_)
      · rw [if_pos c16] at hf
        refine sp_iconst (pc := 94) (v := 2) dX3_mergeRuns_94 (by decide) ?_
        refine sp_istore (pc := 95) (lv' := [(5, .int 2), (4, .int ((y6 + y7) - y5.1)), (3, .int y5.1), (2, .int ((x1 - 2) - v1)), (0, .ref v0), (1, .int v1)]) dX3_mergeRuns_95 (by decide) rfl ?_
        refine sp_iload_n (pc := 97) dX3_mergeRuns_97 3 rfl ?_
        refine sp_istore (pc := 98) (lv' := [(6, .int ((x1 - 2) - v1)), (5, .int 2), (4, .int ((y6 + y7) - y5.1)), (3, .int y5.1), (2, .int ((x1 - 2) - v1)), (0, .ref v0), (1, .int v1)]) dX3_mergeRuns_98 (by decide) rfl ?_
        exact sp_sub [5, 3, 2, 1, 0] rfl (w_X3_mergeRuns_100 hQ FU hf)
      · rw [if_neg c16] at hf
        refine sp_iconst (pc := 90) (v := 1) dX3_mergeRuns_90 (by decide) ?_
        refine sp_goto (pc := 91) (tgt := 95) dX3_mergeRuns_91 (by decide) ?_
        refine sp_istore (pc := 95) (lv' := [(5, .int 1), (4, .int ((y6 + y7) - y5.1)), (3, .int y5.1), (2, .int ((x1 - 2) - v1)), (0, .ref v0), (1, .int v1)]) dX3_mergeRuns_95 (by decide) rfl ?_
        refine sp_iload_n (pc := 97) dX3_mergeRuns_97 3 rfl ?_
        refine sp_istore (pc := 98) (lv' := [(6, .int ((x1 - 2) - v1)), (5, .int 1), (4, .int ((y6 + y7) - y5.1)), (3, .int y5.1), (2, .int ((x1 - 2) - v1)), (0, .ref v0), (1, .int v1)]) dX3_mergeRuns_98 (by decide) rfl ?_
        exact sp_sub [5, 3, 2, 1, 0] rfl (w_X3_mergeRuns_100 hQ FU hf)
    · rw [if_neg c3] at hf
      refine sp_iconst (pc := 17) (v := 0) dX3_mergeRuns_17 (by decide) ?_
      obtain rfl := Option.some.inj hf
      exact sp_ireturn (pc := 18) dX3_mergeRuns_18 rfl rfl (hQ _)

theorem o_X3_mergeRuns {h : HP} {v0 : Nat} {v1 : Int32} {res : Int32 × HP} (hf : f_X3_mergeRuns h v0 v1 = some res) : ∃ fs, h v0 = some (.inr (3, fs)) := by
  obtain ⟨u, eu, -⟩ := ob hf
  exact kO_spec eu

theorem m_X3_mergeRuns {l : Launch} {Q : PST} {h : HP} {v0 : Nat} {v1 : Int32} {sz : Nat} {res : Int32 × HP} (hQ : ∀ sz', Q (.inl (some (.int res.1))) res.2 sz') (hf : f_X3_mergeRuns h v0 v1 = some res) : MM l M_X3_mergeRuns [.ref v0, .int v1] h sz Q := by
  obtain ⟨u, eu, hf⟩ := ob hf
  exact MM_of wok_X3_mergeRuns (by decide +kernel) (Nat.le_of_ble_eq_true rfl) ((w_X3_mergeRuns_0 hQ hf))

theorem dX7_isKey_0 : decode (mB M_X7_isKey) 0 = .ok (.iload_n 0, 1) := by decide +kernel
theorem dX7_isKey_1 : decode (mB M_X7_isKey) 1 = .ok (.ifCond .lt 13, 3) := by decide +kernel
theorem dX7_isKey_4 : decode (mB M_X7_isKey) 4 = .ok (.iload_n 0, 1) := by decide +kernel
theorem dX7_isKey_5 : decode (mB M_X7_isKey) 5 = .ok (.bipush 100, 2) := by decide +kernel
theorem dX7_isKey_7 : decode (mB M_X7_isKey) 7 = .ok (.if_icmp .ge 7, 3) := by decide +kernel
theorem dX7_isKey_10 : decode (mB M_X7_isKey) 10 = .ok (.iconst 1, 1) := by decide +kernel
theorem dX7_isKey_11 : decode (mB M_X7_isKey) 11 = .ok (.goto 4, 3) := by decide +kernel
theorem dX7_isKey_14 : decode (mB M_X7_isKey) 14 = .ok (.iconst 0, 1) := by decide +kernel
theorem dX7_isKey_15 : decode (mB M_X7_isKey) 15 = .ok (.ireturn, 1) := by decide +kernel
def b_X7_isKey_0 (h : HP) (v0 : Int32) : Option (Int32) :=
  if v0 < 0 then some (0) else if 100 ≤ v0 then some (0) else some (1)
def f_X7_isKey (h : HP) (v0 : Int32) : Option (Int32) := b_X7_isKey_0 h v0
theorem w_X7_isKey_0 {l : Launch} {X : SCR} {Q : PST} {bc bs : Nat} {res : Int32} {h : HP} (hQ : ∀ sz', Q (.inl (some (.int res))) h sz') {v0 : Int32} {sz : Nat} (hf : b_X7_isKey_0 h v0  = some res) : SP l X M_X7_isKey 0 [(0, .int v0)] [] h sz bc bs Q := by
  rw [b_X7_isKey_0] at hf
  refine sp_iload_n (pc := 0) dX7_isKey_0 0 rfl ?_
  refine sp_if_lt (pc := 1) (tgt := 14) dX7_isKey_1 (by decide) (fun c1 => ?_) (fun c1 => ?_)
  · rw [if_pos c1] at hf
    refine sp_iconst (pc := 14) (v := 0) dX7_isKey_14 (by decide) ?_
    obtain rfl := Option.some.inj hf
    exact sp_ireturn (pc := 15) dX7_isKey_15 rfl rfl (hQ _)
  · rw [if_neg c1] at hf
    refine sp_iload_n (pc := 4) dX7_isKey_4 0 rfl ?_
    refine sp_bipush (pc := 5) (v := 100) dX7_isKey_5 (by decide) ?_
    refine sp_icmp_ge (pc := 7) (tgt := 14) dX7_isKey_7 (by decide) (fun c2 => ?_) (fun c2 => ?_)
    · rw [if_pos c2] at hf
      refine sp_iconst (pc := 14) (v := 0) dX7_isKey_14 (by decide) ?_
      obtain rfl := Option.some.inj hf
      exact sp_ireturn (pc := 15) dX7_isKey_15 rfl rfl (hQ _)
    · rw [if_neg c2] at hf
      refine sp_iconst (pc := 10) (v := 1) dX7_isKey_10 (by decide) ?_
      refine sp_goto (pc := 11) (tgt := 15) dX7_isKey_11 (by decide) ?_
      obtain rfl := Option.some.inj hf
      exact sp_ireturn (pc := 15) dX7_isKey_15 rfl rfl (hQ _)

theorem m_X7_isKey {l : Launch} {Q : PST} {h : HP} {v0 : Int32} {sz : Nat} {res : Int32} (hQ : ∀ sz', Q (.inl (some (.int res))) h sz') (hf : f_X7_isKey h v0 = some res) : MM l M_X7_isKey [.int v0] h sz Q := by
  rw [f_X7_isKey] at hf
  exact MM_of wok_X7_isKey (by decide +kernel) (Nat.le_of_ble_eq_true rfl) ((w_X7_isKey_0 hQ hf))

theorem dX7_isValue_0 : decode (mB M_X7_isValue) 0 = .ok (.iload_n 0, 1) := by decide +kernel
theorem dX7_isValue_1 : decode (mB M_X7_isValue) 1 = .ok (.iconst 1, 1) := by decide +kernel
theorem dX7_isValue_2 : decode (mB M_X7_isValue) 2 = .ok (.if_icmp .lt 14, 3) := by decide +kernel
theorem dX7_isValue_5 : decode (mB M_X7_isValue) 5 = .ok (.iload_n 0, 1) := by decide +kernel
theorem dX7_isValue_6 : decode (mB M_X7_isValue) 6 = .ok (.sipush 999, 3) := by decide +kernel
theorem dX7_isValue_9 : decode (mB M_X7_isValue) 9 = .ok (.if_icmp .gt 7, 3) := by decide +kernel
theorem dX7_isValue_12 : decode (mB M_X7_isValue) 12 = .ok (.iconst 1, 1) := by decide +kernel
theorem dX7_isValue_13 : decode (mB M_X7_isValue) 13 = .ok (.goto 4, 3) := by decide +kernel
theorem dX7_isValue_16 : decode (mB M_X7_isValue) 16 = .ok (.iconst 0, 1) := by decide +kernel
theorem dX7_isValue_17 : decode (mB M_X7_isValue) 17 = .ok (.ireturn, 1) := by decide +kernel
def b_X7_isValue_0 (h : HP) (v0 : Int32) : Option (Int32) :=
  if v0 < 1 then some (0) else if 999 < v0 then some (0) else some (1)
def f_X7_isValue (h : HP) (v0 : Int32) : Option (Int32) := b_X7_isValue_0 h v0
theorem w_X7_isValue_0 {l : Launch} {X : SCR} {Q : PST} {bc bs : Nat} {res : Int32} {h : HP} (hQ : ∀ sz', Q (.inl (some (.int res))) h sz') {v0 : Int32} {sz : Nat} (hf : b_X7_isValue_0 h v0  = some res) : SP l X M_X7_isValue 0 [(0, .int v0)] [] h sz bc bs Q := by
  rw [b_X7_isValue_0] at hf
  refine sp_iload_n (pc := 0) dX7_isValue_0 0 rfl ?_
  refine sp_iconst (pc := 1) (v := 1) dX7_isValue_1 (by decide) ?_
  refine sp_icmp_lt (pc := 2) (tgt := 16) dX7_isValue_2 (by decide) (fun c1 => ?_) (fun c1 => ?_)
  · rw [if_pos c1] at hf
    refine sp_iconst (pc := 16) (v := 0) dX7_isValue_16 (by decide) ?_
    obtain rfl := Option.some.inj hf
    exact sp_ireturn (pc := 17) dX7_isValue_17 rfl rfl (hQ _)
  · rw [if_neg c1] at hf
    refine sp_iload_n (pc := 5) dX7_isValue_5 0 rfl ?_
    refine sp_sipush (pc := 6) (v := 999) dX7_isValue_6 (by decide) ?_
    refine sp_icmp_gt (pc := 9) (tgt := 16) dX7_isValue_9 (by decide) (fun c2 => ?_) (fun c2 => ?_)
    · rw [if_pos c2] at hf
      refine sp_iconst (pc := 16) (v := 0) dX7_isValue_16 (by decide) ?_
      obtain rfl := Option.some.inj hf
      exact sp_ireturn (pc := 17) dX7_isValue_17 rfl rfl (hQ _)
    · rw [if_neg c2] at hf
      refine sp_iconst (pc := 12) (v := 1) dX7_isValue_12 (by decide) ?_
      refine sp_goto (pc := 13) (tgt := 17) dX7_isValue_13 (by decide) ?_
      obtain rfl := Option.some.inj hf
      exact sp_ireturn (pc := 17) dX7_isValue_17 rfl rfl (hQ _)

theorem m_X7_isValue {l : Launch} {Q : PST} {h : HP} {v0 : Int32} {sz : Nat} {res : Int32} (hQ : ∀ sz', Q (.inl (some (.int res))) h sz') (hf : f_X7_isValue h v0 = some res) : MM l M_X7_isValue [.int v0] h sz Q := by
  rw [f_X7_isValue] at hf
  exact MM_of wok_X7_isValue (by decide +kernel) (Nat.le_of_ble_eq_true rfl) ((w_X7_isValue_0 hQ hf))

theorem dX3_tryPut_0 : decode (mB M_X3_tryPut) 0 = .ok (.iload_n 1, 1) := by decide +kernel
theorem dX3_tryPut_1 : decode (mB M_X3_tryPut) 1 = .ok (.invokestatic 125, 3) := by decide +kernel
theorem dX3_tryPut_4 : decode (mB M_X3_tryPut) 4 = .ok (.ifCond .eq 17, 3) := by decide +kernel
theorem dX3_tryPut_7 : decode (mB M_X3_tryPut) 7 = .ok (.iload_n 2, 1) := by decide +kernel
theorem dX3_tryPut_8 : decode (mB M_X3_tryPut) 8 = .ok (.invokestatic 128, 3) := by decide +kernel
theorem dX3_tryPut_11 : decode (mB M_X3_tryPut) 11 = .ok (.ifCond .eq 10, 3) := by decide +kernel
theorem dX3_tryPut_14 : decode (mB M_X3_tryPut) 14 = .ok (.aload_n 0, 1) := by decide +kernel
theorem dX3_tryPut_15 : decode (mB M_X3_tryPut) 15 = .ok (.invokevirtual 131, 3) := by decide +kernel
theorem dX3_tryPut_18 : decode (mB M_X3_tryPut) 18 = .ok (.ifCond .eq 5, 3) := by decide +kernel
theorem dX3_tryPut_21 : decode (mB M_X3_tryPut) 21 = .ok (.iconst 0, 1) := by decide +kernel
theorem dX3_tryPut_22 : decode (mB M_X3_tryPut) 22 = .ok (.ireturn, 1) := by decide +kernel
theorem dX3_tryPut_23 : decode (mB M_X3_tryPut) 23 = .ok (.aload_n 0, 1) := by decide +kernel
theorem dX3_tryPut_24 : decode (mB M_X3_tryPut) 24 = .ok (.iload_n 1, 1) := by decide +kernel
theorem dX3_tryPut_25 : decode (mB M_X3_tryPut) 25 = .ok (.iload_n 1, 1) := by decide +kernel
theorem dX3_tryPut_26 : decode (mB M_X3_tryPut) 26 = .ok (.iload_n 2, 1) := by decide +kernel
theorem dX3_tryPut_27 : decode (mB M_X3_tryPut) 27 = .ok (.invokevirtual 135, 3) := by decide +kernel
theorem dX3_tryPut_30 : decode (mB M_X3_tryPut) 30 = .ok (.iconst 1, 1) := by decide +kernel
theorem dX3_tryPut_31 : decode (mB M_X3_tryPut) 31 = .ok (.ireturn, 1) := by decide +kernel
def b_X3_tryPut_0 (v0 : Nat) (v1 : Int32) (v2 : Int32) (h : HP) : Option (Int32 × HP) :=
  (f_X7_isKey h v1).bind fun y1 => if y1 = 0 then some (0, h) else (f_X7_isValue h v2).bind fun y3 => if y3 = 0 then some (0, h) else (f_X3_isFull h v0).bind fun y5 => if y5 = 0 then (f_X3_addWrite h v0 v1 v1 v2).bind fun y7 => some (1, y7) else some (0, h)
def f_X3_tryPut (h : HP) (v0 : Nat) (v1 : Int32) (v2 : Int32) : Option (Int32 × HP) := (kO 3 h v0).bind fun _ => b_X3_tryPut_0 v0 v1 v2 h
theorem w_X3_tryPut_0 {l : Launch} {X : SCR} {Q : PST} {bc bs : Nat} {res : Int32 × HP} {h : HP} (hQ : ∀ sz', Q (.inl (some (.int res.1))) res.2 sz') {v0 : Nat} {v1 : Int32} {v2 : Int32} {sz : Nat} (hf : b_X3_tryPut_0 v0 v1 v2 h  = some res) : SP l X M_X3_tryPut 0 [(0, .ref v0), (1, .int v1), (2, .int v2)] [] h sz bc bs Q := by
  rw [b_X3_tryPut_0] at hf
  refine sp_iload_n (pc := 0) dX3_tryPut_0 1 rfl ?_
  obtain ⟨y1, ey1, hf⟩ := ob hf
  refine sp_callSi (pc := 1) (z := M_X7_isKey) (As := [.int v1]) (bc2 := bc) (bs2 := bs) (m_X7_isKey (Q := _) (fun sz => ⟨y1, rfl, ?_⟩) ey1) rfl dX3_tryPut_1 rfl ck_X3_tryPut_125 (Nat.le_of_ble_eq_true rfl) rfl rfl rfl
  refine sp_if_eq (pc := 4) (tgt := 21) dX3_tryPut_4 (by decide) (fun c2 => ?_) (fun c2 => ?_)
  · rw [if_pos c2] at hf
    refine sp_iconst (pc := 21) (v := 0) dX3_tryPut_21 (by decide) ?_
    obtain rfl := Option.some.inj hf
    exact sp_ireturn (pc := 22) dX3_tryPut_22 rfl rfl (hQ _)
  · rw [if_neg c2] at hf
    refine sp_iload_n (pc := 7) dX3_tryPut_7 2 rfl ?_
    obtain ⟨y3, ey3, hf⟩ := ob hf
    refine sp_callSi (pc := 8) (z := M_X7_isValue) (As := [.int v2]) (bc2 := bc) (bs2 := bs) (m_X7_isValue (Q := _) (fun sz => ⟨y3, rfl, ?_⟩) ey3) rfl dX3_tryPut_8 rfl ck_X3_tryPut_128 (Nat.le_of_ble_eq_true rfl) rfl rfl rfl
    refine sp_if_eq (pc := 11) (tgt := 21) dX3_tryPut_11 (by decide) (fun c4 => ?_) (fun c4 => ?_)
    · rw [if_pos c4] at hf
      refine sp_iconst (pc := 21) (v := 0) dX3_tryPut_21 (by decide) ?_
      obtain rfl := Option.some.inj hf
      exact sp_ireturn (pc := 22) dX3_tryPut_22 rfl rfl (hQ _)
    · rw [if_neg c4] at hf
      refine sp_aload_n (pc := 14) dX3_tryPut_14 0 rfl ?_
      obtain ⟨y5, ey5, hf⟩ := ob hf
      obtain ⟨fsy5, hoy5⟩ := o_X3_isFull ey5
      refine sp_callVi (pc := 15) (z := M_X3_isFull) (As := []) (b := v0) (bc2 := bc) (bs2 := bs) (m_X3_isFull (Q := _) (fun sz => ⟨y5, rfl, ?_⟩) ey5) rfl dX3_tryPut_15 hoy5 rfl rfl ck_X3_tryPut_131 (Nat.le_of_ble_eq_true rfl) rfl rfl rfl
      refine sp_if_eq (pc := 18) (tgt := 23) dX3_tryPut_18 (by decide) (fun c6 => ?_) (fun c6 => ?_)
      · rw [if_pos c6] at hf
        refine sp_aload_n (pc := 23) dX3_tryPut_23 0 rfl ?_
        refine sp_iload_n (pc := 24) dX3_tryPut_24 1 rfl ?_
        refine sp_iload_n (pc := 25) dX3_tryPut_25 1 rfl ?_
        refine sp_iload_n (pc := 26) dX3_tryPut_26 2 rfl ?_
        obtain ⟨y7, ey7, hf⟩ := ob hf
        obtain ⟨fsy7, hoy7⟩ := o_X3_addWrite ey7
        refine sp_callVv (pc := 27) (z := M_X3_addWrite) (As := [.int v1, .int v1, .int v2]) (b := v0) (bc2 := bc) (bs2 := bs) (m_X3_addWrite (Q := _) (fun sz => ⟨(), rfl, ?_⟩) ey7) rfl dX3_tryPut_27 hoy7 rfl rfl ck_X3_tryPut_135 (Nat.le_of_ble_eq_true rfl) rfl rfl rfl
        refine sp_iconst (pc := 30) (v := 1) dX3_tryPut_30 (by decide) ?_
        obtain rfl := Option.some.inj hf
        exact sp_ireturn (pc := 31) dX3_tryPut_31 rfl rfl (hQ _)
      · rw [if_neg c6] at hf
        refine sp_iconst (pc := 21) (v := 0) dX3_tryPut_21 (by decide) ?_
        obtain rfl := Option.some.inj hf
        exact sp_ireturn (pc := 22) dX3_tryPut_22 rfl rfl (hQ _)

theorem o_X3_tryPut {h : HP} {v0 : Nat} {v1 : Int32} {v2 : Int32} {res : Int32 × HP} (hf : f_X3_tryPut h v0 v1 v2 = some res) : ∃ fs, h v0 = some (.inr (3, fs)) := by
  obtain ⟨u, eu, -⟩ := ob hf
  exact kO_spec eu

theorem m_X3_tryPut {l : Launch} {Q : PST} {h : HP} {v0 : Nat} {v1 : Int32} {v2 : Int32} {sz : Nat} {res : Int32 × HP} (hQ : ∀ sz', Q (.inl (some (.int res.1))) res.2 sz') (hf : f_X3_tryPut h v0 v1 v2 = some res) : MM l M_X3_tryPut [.ref v0, .int v1, .int v2] h sz Q := by
  obtain ⟨u, eu, hf⟩ := ob hf
  exact MM_of wok_X3_tryPut (by decide +kernel) (Nat.le_of_ble_eq_true rfl) ((w_X3_tryPut_0 hQ hf))

theorem dX3_tryBury_0 : decode (mB M_X3_tryBury) 0 = .ok (.iload_n 1, 1) := by decide +kernel
theorem dX3_tryBury_1 : decode (mB M_X3_tryBury) 1 = .ok (.invokestatic 125, 3) := by decide +kernel
theorem dX3_tryBury_4 : decode (mB M_X3_tryBury) 4 = .ok (.ifCond .eq 22, 3) := by decide +kernel
theorem dX3_tryBury_7 : decode (mB M_X3_tryBury) 7 = .ok (.iload_n 2, 1) := by decide +kernel
theorem dX3_tryBury_8 : decode (mB M_X3_tryBury) 8 = .ok (.invokestatic 125, 3) := by decide +kernel
theorem dX3_tryBury_11 : decode (mB M_X3_tryBury) 11 = .ok (.ifCond .eq 15, 3) := by decide +kernel
theorem dX3_tryBury_14 : decode (mB M_X3_tryBury) 14 = .ok (.iload_n 2, 1) := by decide +kernel
theorem dX3_tryBury_15 : decode (mB M_X3_tryBury) 15 = .ok (.iload_n 1, 1) := by decide +kernel
theorem dX3_tryBury_16 : decode (mB M_X3_tryBury) 16 = .ok (.if_icmp .lt 10, 3) := by decide +kernel
theorem dX3_tryBury_19 : decode (mB M_X3_tryBury) 19 = .ok (.aload_n 0, 1) := by decide +kernel
theorem dX3_tryBury_20 : decode (mB M_X3_tryBury) 20 = .ok (.invokevirtual 131, 3) := by decide +kernel
theorem dX3_tryBury_23 : decode (mB M_X3_tryBury) 23 = .ok (.ifCond .eq 5, 3) := by decide +kernel
theorem dX3_tryBury_26 : decode (mB M_X3_tryBury) 26 = .ok (.iconst 0, 1) := by decide +kernel
theorem dX3_tryBury_27 : decode (mB M_X3_tryBury) 27 = .ok (.ireturn, 1) := by decide +kernel
theorem dX3_tryBury_28 : decode (mB M_X3_tryBury) 28 = .ok (.aload_n 0, 1) := by decide +kernel
theorem dX3_tryBury_29 : decode (mB M_X3_tryBury) 29 = .ok (.iload_n 1, 1) := by decide +kernel
theorem dX3_tryBury_30 : decode (mB M_X3_tryBury) 30 = .ok (.iload_n 2, 1) := by decide +kernel
theorem dX3_tryBury_31 : decode (mB M_X3_tryBury) 31 = .ok (.iconst 0, 1) := by decide +kernel
theorem dX3_tryBury_32 : decode (mB M_X3_tryBury) 32 = .ok (.invokevirtual 135, 3) := by decide +kernel
theorem dX3_tryBury_35 : decode (mB M_X3_tryBury) 35 = .ok (.iconst 1, 1) := by decide +kernel
theorem dX3_tryBury_36 : decode (mB M_X3_tryBury) 36 = .ok (.ireturn, 1) := by decide +kernel
def b_X3_tryBury_0 (v0 : Nat) (v1 : Int32) (v2 : Int32) (h : HP) : Option (Int32 × HP) :=
  (f_X7_isKey h v1).bind fun y1 => if y1 = 0 then some (0, h) else (f_X7_isKey h v2).bind fun y3 => if y3 = 0 then some (0, h) else if v2 < v1 then some (0, h) else (f_X3_isFull h v0).bind fun y6 => if y6 = 0 then (f_X3_addWrite h v0 v1 v2 0).bind fun y8 => some (1, y8) else some (0, h)
def f_X3_tryBury (h : HP) (v0 : Nat) (v1 : Int32) (v2 : Int32) : Option (Int32 × HP) := (kO 3 h v0).bind fun _ => b_X3_tryBury_0 v0 v1 v2 h
theorem w_X3_tryBury_0 {l : Launch} {X : SCR} {Q : PST} {bc bs : Nat} {res : Int32 × HP} {h : HP} (hQ : ∀ sz', Q (.inl (some (.int res.1))) res.2 sz') {v0 : Nat} {v1 : Int32} {v2 : Int32} {sz : Nat} (hf : b_X3_tryBury_0 v0 v1 v2 h  = some res) : SP l X M_X3_tryBury 0 [(0, .ref v0), (1, .int v1), (2, .int v2)] [] h sz bc bs Q := by
  rw [b_X3_tryBury_0] at hf
  refine sp_iload_n (pc := 0) dX3_tryBury_0 1 rfl ?_
  obtain ⟨y1, ey1, hf⟩ := ob hf
  refine sp_callSi (pc := 1) (z := M_X7_isKey) (As := [.int v1]) (bc2 := bc) (bs2 := bs) (m_X7_isKey (Q := _) (fun sz => ⟨y1, rfl, ?_⟩) ey1) rfl dX3_tryBury_1 rfl ck_X3_tryBury_125 (Nat.le_of_ble_eq_true rfl) rfl rfl rfl
  refine sp_if_eq (pc := 4) (tgt := 26) dX3_tryBury_4 (by decide) (fun c2 => ?_) (fun c2 => ?_)
  · rw [if_pos c2] at hf
    refine sp_iconst (pc := 26) (v := 0) dX3_tryBury_26 (by decide) ?_
    obtain rfl := Option.some.inj hf
    exact sp_ireturn (pc := 27) dX3_tryBury_27 rfl rfl (hQ _)
  · rw [if_neg c2] at hf
    refine sp_iload_n (pc := 7) dX3_tryBury_7 2 rfl ?_
    obtain ⟨y3, ey3, hf⟩ := ob hf
    refine sp_callSi (pc := 8) (z := M_X7_isKey) (As := [.int v2]) (bc2 := bc) (bs2 := bs) (m_X7_isKey (Q := _) (fun sz => ⟨y3, rfl, ?_⟩) ey3) rfl dX3_tryBury_8 rfl ck_X3_tryBury_125 (Nat.le_of_ble_eq_true rfl) rfl rfl rfl
    refine sp_if_eq (pc := 11) (tgt := 26) dX3_tryBury_11 (by decide) (fun c4 => ?_) (fun c4 => ?_)
    · rw [if_pos c4] at hf
      refine sp_iconst (pc := 26) (v := 0) dX3_tryBury_26 (by decide) ?_
      obtain rfl := Option.some.inj hf
      exact sp_ireturn (pc := 27) dX3_tryBury_27 rfl rfl (hQ _)
    · rw [if_neg c4] at hf
      refine sp_iload_n (pc := 14) dX3_tryBury_14 2 rfl ?_
      refine sp_iload_n (pc := 15) dX3_tryBury_15 1 rfl ?_
      refine sp_icmp_lt (pc := 16) (tgt := 26) dX3_tryBury_16 (by decide) (fun c5 => ?_) (fun c5 => ?_)
      · rw [if_pos c5] at hf
        refine sp_iconst (pc := 26) (v := 0) dX3_tryBury_26 (by decide) ?_
        obtain rfl := Option.some.inj hf
        exact sp_ireturn (pc := 27) dX3_tryBury_27 rfl rfl (hQ _)
      · rw [if_neg c5] at hf
        refine sp_aload_n (pc := 19) dX3_tryBury_19 0 rfl ?_
        obtain ⟨y6, ey6, hf⟩ := ob hf
        obtain ⟨fsy6, hoy6⟩ := o_X3_isFull ey6
        refine sp_callVi (pc := 20) (z := M_X3_isFull) (As := []) (b := v0) (bc2 := bc) (bs2 := bs) (m_X3_isFull (Q := _) (fun sz => ⟨y6, rfl, ?_⟩) ey6) rfl dX3_tryBury_20 hoy6 rfl rfl ck_X3_tryBury_131 (Nat.le_of_ble_eq_true rfl) rfl rfl rfl
        refine sp_if_eq (pc := 23) (tgt := 28) dX3_tryBury_23 (by decide) (fun c7 => ?_) (fun c7 => ?_)
        · rw [if_pos c7] at hf
          refine sp_aload_n (pc := 28) dX3_tryBury_28 0 rfl ?_
          refine sp_iload_n (pc := 29) dX3_tryBury_29 1 rfl ?_
          refine sp_iload_n (pc := 30) dX3_tryBury_30 2 rfl ?_
          refine sp_iconst (pc := 31) (v := 0) dX3_tryBury_31 (by decide) ?_
          obtain ⟨y8, ey8, hf⟩ := ob hf
          obtain ⟨fsy8, hoy8⟩ := o_X3_addWrite ey8
          refine sp_callVv (pc := 32) (z := M_X3_addWrite) (As := [.int v1, .int v2, .int 0]) (b := v0) (bc2 := bc) (bs2 := bs) (m_X3_addWrite (Q := _) (fun sz => ⟨(), rfl, ?_⟩) ey8) rfl dX3_tryBury_32 hoy8 rfl rfl ck_X3_tryBury_135 (Nat.le_of_ble_eq_true rfl) rfl rfl rfl
          refine sp_iconst (pc := 35) (v := 1) dX3_tryBury_35 (by decide) ?_
          obtain rfl := Option.some.inj hf
          exact sp_ireturn (pc := 36) dX3_tryBury_36 rfl rfl (hQ _)
        · rw [if_neg c7] at hf
          refine sp_iconst (pc := 26) (v := 0) dX3_tryBury_26 (by decide) ?_
          obtain rfl := Option.some.inj hf
          exact sp_ireturn (pc := 27) dX3_tryBury_27 rfl rfl (hQ _)

theorem o_X3_tryBury {h : HP} {v0 : Nat} {v1 : Int32} {v2 : Int32} {res : Int32 × HP} (hf : f_X3_tryBury h v0 v1 v2 = some res) : ∃ fs, h v0 = some (.inr (3, fs)) := by
  obtain ⟨u, eu, -⟩ := ob hf
  exact kO_spec eu

theorem m_X3_tryBury {l : Launch} {Q : PST} {h : HP} {v0 : Nat} {v1 : Int32} {v2 : Int32} {sz : Nat} {res : Int32 × HP} (hQ : ∀ sz', Q (.inl (some (.int res.1))) res.2 sz') (hf : f_X3_tryBury h v0 v1 v2 = some res) : MM l M_X3_tryBury [.ref v0, .int v1, .int v2] h sz Q := by
  obtain ⟨u, eu, hf⟩ := ob hf
  exact MM_of wok_X3_tryBury (by decide +kernel) (Nat.le_of_ble_eq_true rfl) ((w_X3_tryBury_0 hQ hf))

theorem dX3_tryOpen_0 : decode (mB M_X3_tryOpen) 0 = .ok (.aload_n 0, 1) := by decide +kernel
theorem dX3_tryOpen_1 : decode (mB M_X3_tryOpen) 1 = .ok (.invokevirtual 139, 3) := by decide +kernel
theorem dX3_tryOpen_4 : decode (mB M_X3_tryOpen) 4 = .ok (.ifCond .ne 5, 3) := by decide +kernel
theorem dX3_tryOpen_7 : decode (mB M_X3_tryOpen) 7 = .ok (.iconst 0, 1) := by decide +kernel
theorem dX3_tryOpen_8 : decode (mB M_X3_tryOpen) 8 = .ok (.ireturn, 1) := by decide +kernel
theorem dX3_tryOpen_9 : decode (mB M_X3_tryOpen) 9 = .ok (.aload_n 0, 1) := by decide +kernel
theorem dX3_tryOpen_10 : decode (mB M_X3_tryOpen) 10 = .ok (.invokevirtual 142, 3) := by decide +kernel
theorem dX3_tryOpen_13 : decode (mB M_X3_tryOpen) 13 = .ok (.iconst 1, 1) := by decide +kernel
theorem dX3_tryOpen_14 : decode (mB M_X3_tryOpen) 14 = .ok (.ireturn, 1) := by decide +kernel
def b_X3_tryOpen_0 (v0 : Nat) (h : HP) : Option (Int32 × HP) :=
  (f_X3_canOpen h v0).bind fun y1 => if y1 = 0 then some (0, h) else (f_X3_addEye h v0).bind fun y3 => some (1, y3)
def f_X3_tryOpen (h : HP) (v0 : Nat) : Option (Int32 × HP) := (kO 3 h v0).bind fun _ => b_X3_tryOpen_0 v0 h
theorem w_X3_tryOpen_0 {l : Launch} {X : SCR} {Q : PST} {bc bs : Nat} {res : Int32 × HP} {h : HP} (hQ : ∀ sz', Q (.inl (some (.int res.1))) res.2 sz') {v0 : Nat} {sz : Nat} (hf : b_X3_tryOpen_0 v0 h  = some res) : SP l X M_X3_tryOpen 0 [(0, .ref v0)] [] h sz bc bs Q := by
  rw [b_X3_tryOpen_0] at hf
  refine sp_aload_n (pc := 0) dX3_tryOpen_0 0 rfl ?_
  obtain ⟨y1, ey1, hf⟩ := ob hf
  obtain ⟨fsy1, hoy1⟩ := o_X3_canOpen ey1
  refine sp_callVi (pc := 1) (z := M_X3_canOpen) (As := []) (b := v0) (bc2 := bc) (bs2 := bs) (m_X3_canOpen (Q := _) (fun sz => ⟨y1, rfl, ?_⟩) ey1) rfl dX3_tryOpen_1 hoy1 rfl rfl ck_X3_tryOpen_139 (Nat.le_of_ble_eq_true rfl) rfl rfl rfl
  refine sp_if_ne (pc := 4) (tgt := 9) dX3_tryOpen_4 (by decide) (fun c2 => ?_) (fun c2 => ?_)
  · rw [if_neg c2] at hf
    refine sp_aload_n (pc := 9) dX3_tryOpen_9 0 rfl ?_
    obtain ⟨y3, ey3, hf⟩ := ob hf
    obtain ⟨fsy3, hoy3⟩ := o_X3_addEye ey3
    refine sp_callVv (pc := 10) (z := M_X3_addEye) (As := []) (b := v0) (bc2 := bc) (bs2 := bs) (m_X3_addEye (Q := _) (fun sz => ⟨(), rfl, ?_⟩) ey3) rfl dX3_tryOpen_10 hoy3 rfl rfl ck_X3_tryOpen_142 (Nat.le_of_ble_eq_true rfl) rfl rfl rfl
    refine sp_iconst (pc := 13) (v := 1) dX3_tryOpen_13 (by decide) ?_
    obtain rfl := Option.some.inj hf
    exact sp_ireturn (pc := 14) dX3_tryOpen_14 rfl rfl (hQ _)
  · rw [if_pos c2] at hf
    refine sp_iconst (pc := 7) (v := 0) dX3_tryOpen_7 (by decide) ?_
    obtain rfl := Option.some.inj hf
    exact sp_ireturn (pc := 8) dX3_tryOpen_8 rfl rfl (hQ _)

theorem o_X3_tryOpen {h : HP} {v0 : Nat} {res : Int32 × HP} (hf : f_X3_tryOpen h v0 = some res) : ∃ fs, h v0 = some (.inr (3, fs)) := by
  obtain ⟨u, eu, -⟩ := ob hf
  exact kO_spec eu

theorem m_X3_tryOpen {l : Launch} {Q : PST} {h : HP} {v0 : Nat} {sz : Nat} {res : Int32 × HP} (hQ : ∀ sz', Q (.inl (some (.int res.1))) res.2 sz') (hf : f_X3_tryOpen h v0 = some res) : MM l M_X3_tryOpen [.ref v0] h sz Q := by
  obtain ⟨u, eu, hf⟩ := ob hf
  exact MM_of wok_X3_tryOpen (by decide +kernel) (Nat.le_of_ble_eq_true rfl) ((w_X3_tryOpen_0 hQ hf))

theorem dX3_tryClose_0 : decode (mB M_X3_tryClose) 0 = .ok (.aload_n 0, 1) := by decide +kernel
theorem dX3_tryClose_1 : decode (mB M_X3_tryClose) 1 = .ok (.iload_n 1, 1) := by decide +kernel
theorem dX3_tryClose_2 : decode (mB M_X3_tryClose) 2 = .ok (.invokevirtual 89, 3) := by decide +kernel
theorem dX3_tryClose_5 : decode (mB M_X3_tryClose) 5 = .ok (.ifCond .ne 5, 3) := by decide +kernel
theorem dX3_tryClose_8 : decode (mB M_X3_tryClose) 8 = .ok (.iconst 0, 1) := by decide +kernel
theorem dX3_tryClose_9 : decode (mB M_X3_tryClose) 9 = .ok (.ireturn, 1) := by decide +kernel
theorem dX3_tryClose_10 : decode (mB M_X3_tryClose) 10 = .ok (.aload_n 0, 1) := by decide +kernel
theorem dX3_tryClose_11 : decode (mB M_X3_tryClose) 11 = .ok (.iload_n 1, 1) := by decide +kernel
theorem dX3_tryClose_12 : decode (mB M_X3_tryClose) 12 = .ok (.invokevirtual 145, 3) := by decide +kernel
theorem dX3_tryClose_15 : decode (mB M_X3_tryClose) 15 = .ok (.iconst 1, 1) := by decide +kernel
theorem dX3_tryClose_16 : decode (mB M_X3_tryClose) 16 = .ok (.ireturn, 1) := by decide +kernel
def b_X3_tryClose_0 (v0 : Nat) (v1 : Int32) (h : HP) : Option (Int32 × HP) :=
  (f_X3_isEye h v0 v1).bind fun y1 => if y1 = 0 then some (0, h) else (f_X3_dropEye h v0 v1).bind fun y3 => some (1, y3)
def f_X3_tryClose (h : HP) (v0 : Nat) (v1 : Int32) : Option (Int32 × HP) := (kO 3 h v0).bind fun _ => b_X3_tryClose_0 v0 v1 h
theorem w_X3_tryClose_0 {l : Launch} {X : SCR} {Q : PST} {bc bs : Nat} {res : Int32 × HP} {h : HP} (hQ : ∀ sz', Q (.inl (some (.int res.1))) res.2 sz') {v0 : Nat} {v1 : Int32} {sz : Nat} (hf : b_X3_tryClose_0 v0 v1 h  = some res) : SP l X M_X3_tryClose 0 [(0, .ref v0), (1, .int v1)] [] h sz bc bs Q := by
  rw [b_X3_tryClose_0] at hf
  refine sp_aload_n (pc := 0) dX3_tryClose_0 0 rfl ?_
  refine sp_iload_n (pc := 1) dX3_tryClose_1 1 rfl ?_
  obtain ⟨y1, ey1, hf⟩ := ob hf
  obtain ⟨fsy1, hoy1⟩ := o_X3_isEye ey1
  refine sp_callVi (pc := 2) (z := M_X3_isEye) (As := [.int v1]) (b := v0) (bc2 := bc) (bs2 := bs) (m_X3_isEye (Q := _) (fun sz => ⟨y1, rfl, ?_⟩) ey1) rfl dX3_tryClose_2 hoy1 rfl rfl ck_X3_tryClose_89 (Nat.le_of_ble_eq_true rfl) rfl rfl rfl
  refine sp_if_ne (pc := 5) (tgt := 10) dX3_tryClose_5 (by decide) (fun c2 => ?_) (fun c2 => ?_)
  · rw [if_neg c2] at hf
    refine sp_aload_n (pc := 10) dX3_tryClose_10 0 rfl ?_
    refine sp_iload_n (pc := 11) dX3_tryClose_11 1 rfl ?_
    obtain ⟨y3, ey3, hf⟩ := ob hf
    obtain ⟨fsy3, hoy3⟩ := o_X3_dropEye ey3
    refine sp_callVv (pc := 12) (z := M_X3_dropEye) (As := [.int v1]) (b := v0) (bc2 := bc) (bs2 := bs) (m_X3_dropEye (Q := _) (fun sz => ⟨(), rfl, ?_⟩) ey3) rfl dX3_tryClose_12 hoy3 rfl rfl ck_X3_tryClose_145 (Nat.le_of_ble_eq_true rfl) rfl rfl rfl
    refine sp_iconst (pc := 15) (v := 1) dX3_tryClose_15 (by decide) ?_
    obtain rfl := Option.some.inj hf
    exact sp_ireturn (pc := 16) dX3_tryClose_16 rfl rfl (hQ _)
  · rw [if_pos c2] at hf
    refine sp_iconst (pc := 8) (v := 0) dX3_tryClose_8 (by decide) ?_
    obtain rfl := Option.some.inj hf
    exact sp_ireturn (pc := 9) dX3_tryClose_9 rfl rfl (hQ _)

theorem o_X3_tryClose {h : HP} {v0 : Nat} {v1 : Int32} {res : Int32 × HP} (hf : f_X3_tryClose h v0 v1 = some res) : ∃ fs, h v0 = some (.inr (3, fs)) := by
  obtain ⟨u, eu, -⟩ := ob hf
  exact kO_spec eu

theorem m_X3_tryClose {l : Launch} {Q : PST} {h : HP} {v0 : Nat} {v1 : Int32} {sz : Nat} {res : Int32 × HP} (hQ : ∀ sz', Q (.inl (some (.int res.1))) res.2 sz') (hf : f_X3_tryClose h v0 v1 = some res) : MM l M_X3_tryClose [.ref v0, .int v1] h sz Q := by
  obtain ⟨u, eu, hf⟩ := ob hf
  exact MM_of wok_X3_tryClose (by decide +kernel) (Nat.le_of_ble_eq_true rfl) ((w_X3_tryClose_0 hQ hf))

theorem dX3_tryFlush_0 : decode (mB M_X3_tryFlush) 0 = .ok (.aload_n 0, 1) := by decide +kernel
theorem dX3_tryFlush_1 : decode (mB M_X3_tryFlush) 1 = .ok (.invokevirtual 148, 3) := by decide +kernel
theorem dX3_tryFlush_4 : decode (mB M_X3_tryFlush) 4 = .ok (.ifCond .ne 5, 3) := by decide +kernel
theorem dX3_tryFlush_7 : decode (mB M_X3_tryFlush) 7 = .ok (.iconst 0, 1) := by decide +kernel
theorem dX3_tryFlush_8 : decode (mB M_X3_tryFlush) 8 = .ok (.ireturn, 1) := by decide +kernel
theorem dX3_tryFlush_9 : decode (mB M_X3_tryFlush) 9 = .ok (.aload_n 0, 1) := by decide +kernel
theorem dX3_tryFlush_10 : decode (mB M_X3_tryFlush) 10 = .ok (.invokevirtual 151, 3) := by decide +kernel
theorem dX3_tryFlush_13 : decode (mB M_X3_tryFlush) 13 = .ok (.pop, 1) := by decide +kernel
theorem dX3_tryFlush_14 : decode (mB M_X3_tryFlush) 14 = .ok (.iconst 1, 1) := by decide +kernel
theorem dX3_tryFlush_15 : decode (mB M_X3_tryFlush) 15 = .ok (.ireturn, 1) := by decide +kernel
def b_X3_tryFlush_0 (v0 : Nat) (h : HP) : Option (Int32 × HP) :=
  (f_X3_canFlush h v0).bind fun y1 => if y1.1 = 0 then some (0, y1.2) else (f_X3_flushMemory y1.2 v0).bind fun y3 => some (1, y3.2)
def f_X3_tryFlush (h : HP) (v0 : Nat) : Option (Int32 × HP) := (kO 3 h v0).bind fun _ => b_X3_tryFlush_0 v0 h
theorem w_X3_tryFlush_0 {l : Launch} {X : SCR} {Q : PST} {bc bs : Nat} {res : Int32 × HP} {h : HP} (hQ : ∀ sz', Q (.inl (some (.int res.1))) res.2 sz') {v0 : Nat} {sz : Nat} (hf : b_X3_tryFlush_0 v0 h  = some res) : SP l X M_X3_tryFlush 0 [(0, .ref v0)] [] h sz bc bs Q := by
  rw [b_X3_tryFlush_0] at hf
  refine sp_aload_n (pc := 0) dX3_tryFlush_0 0 rfl ?_
  obtain ⟨y1, ey1, hf⟩ := ob hf
  obtain ⟨fsy1, hoy1⟩ := o_X3_canFlush ey1
  refine sp_callVi (pc := 1) (z := M_X3_canFlush) (As := []) (b := v0) (bc2 := bc) (bs2 := bs) (m_X3_canFlush (Q := _) (fun sz => ⟨y1.1, rfl, ?_⟩) ey1) rfl dX3_tryFlush_1 hoy1 rfl rfl ck_X3_tryFlush_148 (Nat.le_of_ble_eq_true rfl) rfl rfl rfl
  refine sp_if_ne (pc := 4) (tgt := 9) dX3_tryFlush_4 (by decide) (fun c2 => ?_) (fun c2 => ?_)
  · rw [if_neg c2] at hf
    refine sp_aload_n (pc := 9) dX3_tryFlush_9 0 rfl ?_
    obtain ⟨y3, ey3, hf⟩ := ob hf
    obtain ⟨fsy3, hoy3⟩ := o_X3_flushMemory ey3
    refine sp_callVi (pc := 10) (z := M_X3_flushMemory) (As := []) (b := v0) (bc2 := bc) (bs2 := bs) (m_X3_flushMemory (Q := _) (fun sz => ⟨y3.1, rfl, ?_⟩) ey3) rfl dX3_tryFlush_10 hoy3 rfl rfl ck_X3_tryFlush_151 (Nat.le_of_ble_eq_true rfl) rfl rfl rfl
    refine sp_pop (pc := 13) dX3_tryFlush_13 rfl ?_
    refine sp_iconst (pc := 14) (v := 1) dX3_tryFlush_14 (by decide) ?_
    obtain rfl := Option.some.inj hf
    exact sp_ireturn (pc := 15) dX3_tryFlush_15 rfl rfl (hQ _)
  · rw [if_pos c2] at hf
    refine sp_iconst (pc := 7) (v := 0) dX3_tryFlush_7 (by decide) ?_
    obtain rfl := Option.some.inj hf
    exact sp_ireturn (pc := 8) dX3_tryFlush_8 rfl rfl (hQ _)

theorem o_X3_tryFlush {h : HP} {v0 : Nat} {res : Int32 × HP} (hf : f_X3_tryFlush h v0 = some res) : ∃ fs, h v0 = some (.inr (3, fs)) := by
  obtain ⟨u, eu, -⟩ := ob hf
  exact kO_spec eu

theorem m_X3_tryFlush {l : Launch} {Q : PST} {h : HP} {v0 : Nat} {sz : Nat} {res : Int32 × HP} (hQ : ∀ sz', Q (.inl (some (.int res.1))) res.2 sz') (hf : f_X3_tryFlush h v0 = some res) : MM l M_X3_tryFlush [.ref v0] h sz Q := by
  obtain ⟨u, eu, hf⟩ := ob hf
  exact MM_of wok_X3_tryFlush (by decide +kernel) (Nat.le_of_ble_eq_true rfl) ((w_X3_tryFlush_0 hQ hf))

theorem dX3_tryMerge_0 : decode (mB M_X3_tryMerge) 0 = .ok (.aload_n 0, 1) := by decide +kernel
theorem dX3_tryMerge_1 : decode (mB M_X3_tryMerge) 1 = .ok (.iload_n 1, 1) := by decide +kernel
theorem dX3_tryMerge_2 : decode (mB M_X3_tryMerge) 2 = .ok (.invokevirtual 154, 3) := by decide +kernel
theorem dX3_tryMerge_5 : decode (mB M_X3_tryMerge) 5 = .ok (.ifCond .ne 5, 3) := by decide +kernel
theorem dX3_tryMerge_8 : decode (mB M_X3_tryMerge) 8 = .ok (.iconst 0, 1) := by decide +kernel
theorem dX3_tryMerge_9 : decode (mB M_X3_tryMerge) 9 = .ok (.ireturn, 1) := by decide +kernel
theorem dX3_tryMerge_10 : decode (mB M_X3_tryMerge) 10 = .ok (.aload_n 0, 1) := by decide +kernel
theorem dX3_tryMerge_11 : decode (mB M_X3_tryMerge) 11 = .ok (.iload_n 1, 1) := by decide +kernel
theorem dX3_tryMerge_12 : decode (mB M_X3_tryMerge) 12 = .ok (.invokevirtual 157, 3) := by decide +kernel
theorem dX3_tryMerge_15 : decode (mB M_X3_tryMerge) 15 = .ok (.pop, 1) := by decide +kernel
theorem dX3_tryMerge_16 : decode (mB M_X3_tryMerge) 16 = .ok (.iconst 1, 1) := by decide +kernel
theorem dX3_tryMerge_17 : decode (mB M_X3_tryMerge) 17 = .ok (.ireturn, 1) := by decide +kernel
def b_X3_tryMerge_0 (v0 : Nat) (v1 : Int32) (h : HP) : Option (Int32 × HP) :=
  (f_X3_canMerge h v0 v1).bind fun y1 => if y1.1 = 0 then some (0, y1.2) else (f_X3_mergeRuns y1.2 v0 v1).bind fun y3 => some (1, y3.2)
def f_X3_tryMerge (h : HP) (v0 : Nat) (v1 : Int32) : Option (Int32 × HP) := (kO 3 h v0).bind fun _ => b_X3_tryMerge_0 v0 v1 h
theorem w_X3_tryMerge_0 {l : Launch} {X : SCR} {Q : PST} {bc bs : Nat} {res : Int32 × HP} {h : HP} (hQ : ∀ sz', Q (.inl (some (.int res.1))) res.2 sz') {v0 : Nat} {v1 : Int32} {sz : Nat} (hf : b_X3_tryMerge_0 v0 v1 h  = some res) : SP l X M_X3_tryMerge 0 [(0, .ref v0), (1, .int v1)] [] h sz bc bs Q := by
  rw [b_X3_tryMerge_0] at hf
  refine sp_aload_n (pc := 0) dX3_tryMerge_0 0 rfl ?_
  refine sp_iload_n (pc := 1) dX3_tryMerge_1 1 rfl ?_
  obtain ⟨y1, ey1, hf⟩ := ob hf
  obtain ⟨fsy1, hoy1⟩ := o_X3_canMerge ey1
  refine sp_callVi (pc := 2) (z := M_X3_canMerge) (As := [.int v1]) (b := v0) (bc2 := bc) (bs2 := bs) (m_X3_canMerge (Q := _) (fun sz => ⟨y1.1, rfl, ?_⟩) ey1) rfl dX3_tryMerge_2 hoy1 rfl rfl ck_X3_tryMerge_154 (Nat.le_of_ble_eq_true rfl) rfl rfl rfl
  refine sp_if_ne (pc := 5) (tgt := 10) dX3_tryMerge_5 (by decide) (fun c2 => ?_) (fun c2 => ?_)
  · rw [if_neg c2] at hf
    refine sp_aload_n (pc := 10) dX3_tryMerge_10 0 rfl ?_
    refine sp_iload_n (pc := 11) dX3_tryMerge_11 1 rfl ?_
    obtain ⟨y3, ey3, hf⟩ := ob hf
    obtain ⟨fsy3, hoy3⟩ := o_X3_mergeRuns ey3
    refine sp_callVi (pc := 12) (z := M_X3_mergeRuns) (As := [.int v1]) (b := v0) (bc2 := bc) (bs2 := bs) (m_X3_mergeRuns (Q := _) (fun sz => ⟨y3.1, rfl, ?_⟩) ey3) rfl dX3_tryMerge_12 hoy3 rfl rfl ck_X3_tryMerge_157 (Nat.le_of_ble_eq_true rfl) rfl rfl rfl
    refine sp_pop (pc := 15) dX3_tryMerge_15 rfl ?_
    refine sp_iconst (pc := 16) (v := 1) dX3_tryMerge_16 (by decide) ?_
    obtain rfl := Option.some.inj hf
    exact sp_ireturn (pc := 17) dX3_tryMerge_17 rfl rfl (hQ _)
  · rw [if_pos c2] at hf
    refine sp_iconst (pc := 8) (v := 0) dX3_tryMerge_8 (by decide) ?_
    obtain rfl := Option.some.inj hf
    exact sp_ireturn (pc := 9) dX3_tryMerge_9 rfl rfl (hQ _)

theorem o_X3_tryMerge {h : HP} {v0 : Nat} {v1 : Int32} {res : Int32 × HP} (hf : f_X3_tryMerge h v0 v1 = some res) : ∃ fs, h v0 = some (.inr (3, fs)) := by
  obtain ⟨u, eu, -⟩ := ob hf
  exact kO_spec eu

theorem m_X3_tryMerge {l : Launch} {Q : PST} {h : HP} {v0 : Nat} {v1 : Int32} {sz : Nat} {res : Int32 × HP} (hQ : ∀ sz', Q (.inl (some (.int res.1))) res.2 sz') (hf : f_X3_tryMerge h v0 v1 = some res) : MM l M_X3_tryMerge [.ref v0, .int v1] h sz Q := by
  obtain ⟨u, eu, hf⟩ := ob hf
  exact MM_of wok_X3_tryMerge (by decide +kernel) (Nat.le_of_ble_eq_true rfl) ((w_X3_tryMerge_0 hQ hf))

theorem dX4_init_0 : decode (mB M_X4_init) 0 = .ok (.aload_n 0, 1) := by decide +kernel
theorem dX4_init_1 : decode (mB M_X4_init) 1 = .ok (.invokespecial 3, 3) := by decide +kernel
theorem dX4_init_4 : decode (mB M_X4_init) 4 = .ok (.aload_n 0, 1) := by decide +kernel
theorem dX4_init_5 : decode (mB M_X4_init) 5 = .ok (.bipush 120, 2) := by decide +kernel
theorem dX4_init_7 : decode (mB M_X4_init) 7 = .ok (.newarray .int, 2) := by decide +kernel
theorem dX4_init_9 : decode (mB M_X4_init) 9 = .ok (.putfield 9, 3) := by decide +kernel
theorem dX4_init_12 : decode (mB M_X4_init) 12 = .ok (.return_, 1) := by decide +kernel
def b_X4_init_0 (v0 : Nat) (h : HP) (q bc bs : Nat) : Option (HP × Nat) :=
  (alN bc bs 120).bind fun b1 => (nwI h q 120).bind fun h2 => (pR 4 0 h2 v0 q).bind fun h3 => some (h3, q + 1)
def f_X4_init (h : HP) (q : Nat) (v0 : Nat) : Option (HP × Nat) := b_X4_init_0 v0 h q 1 120
theorem w_X4_init_0 {l : Launch} {X : SCR} {Q : PST} {res : HP × Nat} {h : HP} {q bc bs : Nat} (hQ : Q (.inl none) res.1 res.2) {v0 : Nat} (hf : b_X4_init_0 v0 h q bc bs  = some res) : SP l X M_X4_init 0 [(0, .ref v0)] [] h q bc bs Q := by
  rw [b_X4_init_0] at hf
  refine sp_aload_n (pc := 0) dX4_init_0 0 rfl ?_
  refine sp_objInit (pc := 1) bk_158 bk_88 bk_89 dX4_init_1 (by decide) (Nat.le_of_ble_eq_true rfl) ?_
  refine sp_aload_n (pc := 4) dX4_init_4 0 rfl ?_
  refine sp_bipush (pc := 5) (v := 120) dX4_init_5 (by decide) ?_
  obtain ⟨b1, eb1, hf⟩ := ob hf
  obtain ⟨h2, eh2, hf⟩ := ob hf
  obtain rfl := Option.some.inj eh2
  obtain ⟨g1b1, g2b1, g3b1, g4b1⟩ := alN_spec eb1
  refine sp_newaI (pc := 7) (bc2 := b1.1) (bs2 := b1.2) bk_121 dX4_init_7 g1b1 rfl (Nat.le_trans (Nat.mul_le_mul_left _ (by decide)) g2b1) g3b1 g4b1 (fun hfr => ?_)
  obtain ⟨h3, eh3, hf⟩ := ob hf
  refine sp_pRF (pc := 9) pf_RX4_9 rfl dX4_init_9 rfl rfl eh3 ?_
  obtain rfl := Option.some.inj hf
  exact sp_return (pc := 12) dX4_init_12 rfl hQ

theorem m_X4_init {l : Launch} {Q : PST} {h : HP} {v0 : Nat} {sz : Nat} {res : HP × Nat} (hQ : Q (.inl none) res.1 res.2) (hf : f_X4_init h sz v0 = some res) : MM l M_X4_init [.ref v0] h sz Q := by
  rw [f_X4_init] at hf
  exact MM_of wok_X4_init (by decide +kernel) (Nat.le_of_ble_eq_true rfl) ((w_X4_init_0 hQ hf))

theorem dX4_length_0 : decode (mB M_X4_length) 0 = .ok (.aload_n 0, 1) := by decide +kernel
theorem dX4_length_1 : decode (mB M_X4_length) 1 = .ok (.getfield 15, 3) := by decide +kernel
theorem dX4_length_4 : decode (mB M_X4_length) 4 = .ok (.ireturn, 1) := by decide +kernel
def b_X4_length_0 (h : HP) (v0 : Nat) : Option (Int32) :=
  (gI 4 1 h v0).bind fun x1 => some (x1)
def f_X4_length (h : HP) (v0 : Nat) : Option (Int32) := (kO 4 h v0).bind fun _ => b_X4_length_0 h v0
theorem w_X4_length_0 {l : Launch} {X : SCR} {Q : PST} {bc bs : Nat} {res : Int32} {h : HP} (hQ : ∀ sz', Q (.inl (some (.int res))) h sz') {v0 : Nat} {sz : Nat} (hf : b_X4_length_0 h v0  = some res) : SP l X M_X4_length 0 [(0, .ref v0)] [] h sz bc bs Q := by
  rw [b_X4_length_0] at hf
  refine sp_aload_n (pc := 0) dX4_length_0 0 rfl ?_
  obtain ⟨x1, ex1, hf⟩ := ob hf
  refine sp_gI (pc := 1) fl_RX4_15 dX4_length_1 ex1 ?_
  obtain rfl := Option.some.inj hf
  exact sp_ireturn (pc := 4) dX4_length_4 rfl rfl (hQ _)

theorem o_X4_length {h : HP} {v0 : Nat} {res : Int32} (hf : f_X4_length h v0 = some res) : ∃ fs, h v0 = some (.inr (4, fs)) := by
  obtain ⟨u, eu, -⟩ := ob hf
  exact kO_spec eu

theorem m_X4_length {l : Launch} {Q : PST} {h : HP} {v0 : Nat} {sz : Nat} {res : Int32} (hQ : ∀ sz', Q (.inl (some (.int res))) h sz') (hf : f_X4_length h v0 = some res) : MM l M_X4_length [.ref v0] h sz Q := by
  obtain ⟨u, eu, hf⟩ := ob hf
  exact MM_of wok_X4_length (by decide +kernel) (Nat.le_of_ble_eq_true rfl) ((w_X4_length_0 hQ hf))

theorem dX4_isFull_0 : decode (mB M_X4_isFull) 0 = .ok (.aload_n 0, 1) := by decide +kernel
theorem dX4_isFull_1 : decode (mB M_X4_isFull) 1 = .ok (.getfield 15, 3) := by decide +kernel
theorem dX4_isFull_4 : decode (mB M_X4_isFull) 4 = .ok (.aload_n 0, 1) := by decide +kernel
theorem dX4_isFull_5 : decode (mB M_X4_isFull) 5 = .ok (.getfield 9, 3) := by decide +kernel
theorem dX4_isFull_8 : decode (mB M_X4_isFull) 8 = .ok (.arraylength, 1) := by decide +kernel
theorem dX4_isFull_9 : decode (mB M_X4_isFull) 9 = .ok (.if_icmp .lt 7, 3) := by decide +kernel
theorem dX4_isFull_12 : decode (mB M_X4_isFull) 12 = .ok (.iconst 1, 1) := by decide +kernel
theorem dX4_isFull_13 : decode (mB M_X4_isFull) 13 = .ok (.goto 4, 3) := by decide +kernel
theorem dX4_isFull_16 : decode (mB M_X4_isFull) 16 = .ok (.iconst 0, 1) := by decide +kernel
theorem dX4_isFull_17 : decode (mB M_X4_isFull) 17 = .ok (.ireturn, 1) := by decide +kernel
def b_X4_isFull_0 (h : HP) (v0 : Nat) : Option (Int32) :=
  (gI 4 1 h v0).bind fun x1 => (gR 4 0 h v0).bind fun x2 => (aN h x2).bind fun x3 => if x1 < x3 then some (0) else some (1)
def f_X4_isFull (h : HP) (v0 : Nat) : Option (Int32) := (kO 4 h v0).bind fun _ => b_X4_isFull_0 h v0
theorem w_X4_isFull_0 {l : Launch} {X : SCR} {Q : PST} {bc bs : Nat} {res : Int32} {h : HP} (hQ : ∀ sz', Q (.inl (some (.int res))) h sz') {v0 : Nat} {sz : Nat} (hf : b_X4_isFull_0 h v0  = some res) : SP l X M_X4_isFull 0 [(0, .ref v0)] [] h sz bc bs Q := by
  rw [b_X4_isFull_0] at hf
  refine sp_aload_n (pc := 0) dX4_isFull_0 0 rfl ?_
  obtain ⟨x1, ex1, hf⟩ := ob hf
  refine sp_gI (pc := 1) fl_RX4_15 dX4_isFull_1 ex1 ?_
  refine sp_aload_n (pc := 4) dX4_isFull_4 0 rfl ?_
  obtain ⟨x2, ex2, hf⟩ := ob hf
  refine sp_gR (pc := 5) fl_RX4_9 dX4_isFull_5 ex2 ?_
  obtain ⟨x3, ex3, hf⟩ := ob hf
  refine sp_aN (pc := 8) dX4_isFull_8 ex3 ?_
  refine sp_icmp_lt (pc := 9) (tgt := 16) dX4_isFull_9 (by decide) (fun c4 => ?_) (fun c4 => ?_)
  · rw [if_pos c4] at hf
    refine sp_iconst (pc := 16) (v := 0) dX4_isFull_16 (by decide) ?_
    obtain rfl := Option.some.inj hf
    exact sp_ireturn (pc := 17) dX4_isFull_17 rfl rfl (hQ _)
  · rw [if_neg c4] at hf
    refine sp_iconst (pc := 12) (v := 1) dX4_isFull_12 (by decide) ?_
    refine sp_goto (pc := 13) (tgt := 17) dX4_isFull_13 (by decide) ?_
    obtain rfl := Option.some.inj hf
    exact sp_ireturn (pc := 17) dX4_isFull_17 rfl rfl (hQ _)

theorem o_X4_isFull {h : HP} {v0 : Nat} {res : Int32} (hf : f_X4_isFull h v0 = some res) : ∃ fs, h v0 = some (.inr (4, fs)) := by
  obtain ⟨u, eu, -⟩ := ob hf
  exact kO_spec eu

theorem m_X4_isFull {l : Launch} {Q : PST} {h : HP} {v0 : Nat} {sz : Nat} {res : Int32} (hQ : ∀ sz', Q (.inl (some (.int res))) h sz') (hf : f_X4_isFull h v0 = some res) : MM l M_X4_isFull [.ref v0] h sz Q := by
  obtain ⟨u, eu, hf⟩ := ob hf
  exact MM_of wok_X4_isFull (by decide +kernel) (Nat.le_of_ble_eq_true rfl) ((w_X4_isFull_0 hQ hf))

theorem dX4_addSign_0 : decode (mB M_X4_addSign) 0 = .ok (.aload_n 0, 1) := by decide +kernel
theorem dX4_addSign_1 : decode (mB M_X4_addSign) 1 = .ok (.getfield 15, 3) := by decide +kernel
theorem dX4_addSign_4 : decode (mB M_X4_addSign) 4 = .ok (.aload_n 0, 1) := by decide +kernel
theorem dX4_addSign_5 : decode (mB M_X4_addSign) 5 = .ok (.getfield 9, 3) := by decide +kernel
theorem dX4_addSign_8 : decode (mB M_X4_addSign) 8 = .ok (.arraylength, 1) := by decide +kernel
theorem dX4_addSign_9 : decode (mB M_X4_addSign) 9 = .ok (.if_icmp .ge 23, 3) := by decide +kernel
theorem dX4_addSign_12 : decode (mB M_X4_addSign) 12 = .ok (.aload_n 0, 1) := by decide +kernel
theorem dX4_addSign_13 : decode (mB M_X4_addSign) 13 = .ok (.getfield 9, 3) := by decide +kernel
theorem dX4_addSign_16 : decode (mB M_X4_addSign) 16 = .ok (.aload_n 0, 1) := by decide +kernel
theorem dX4_addSign_17 : decode (mB M_X4_addSign) 17 = .ok (.getfield 15, 3) := by decide +kernel
theorem dX4_addSign_20 : decode (mB M_X4_addSign) 20 = .ok (.iload_n 1, 1) := by decide +kernel
theorem dX4_addSign_21 : decode (mB M_X4_addSign) 21 = .ok (.iastore, 1) := by decide +kernel
theorem dX4_addSign_22 : decode (mB M_X4_addSign) 22 = .ok (.aload_n 0, 1) := by decide +kernel
theorem dX4_addSign_23 : decode (mB M_X4_addSign) 23 = .ok (.dup, 1) := by decide +kernel
theorem dX4_addSign_24 : decode (mB M_X4_addSign) 24 = .ok (.getfield 15, 3) := by decide +kernel
theorem dX4_addSign_27 : decode (mB M_X4_addSign) 27 = .ok (.iconst 1, 1) := by decide +kernel
theorem dX4_addSign_28 : decode (mB M_X4_addSign) 28 = .ok (.iadd, 1) := by decide +kernel
theorem dX4_addSign_29 : decode (mB M_X4_addSign) 29 = .ok (.putfield 15, 3) := by decide +kernel
theorem dX4_addSign_32 : decode (mB M_X4_addSign) 32 = .ok (.return_, 1) := by decide +kernel
def b_X4_addSign_0 (v0 : Nat) (v1 : Int32) (h : HP) : Option (HP) :=
  (gI 4 1 h v0).bind fun x1 => (gR 4 0 h v0).bind fun x2 => (aN h x2).bind fun x3 => if x3 ≤ x1 then some h else (gR 4 0 h v0).bind fun x5 => (gI 4 1 h v0).bind fun x6 => (wI h x5 x6 v1).bind fun h7 => (gI 4 1 h7 v0).bind fun x8 => (pI 4 1 h7 v0 (x8 + 1)).bind fun h9 => some h9
def f_X4_addSign (h : HP) (v0 : Nat) (v1 : Int32) : Option (HP) := (kO 4 h v0).bind fun _ => b_X4_addSign_0 v0 v1 h
theorem w_X4_addSign_0 {l : Launch} {X : SCR} {Q : PST} {bc bs : Nat} {res : HP} {h : HP} (hQ : ∀ sz', Q (.inl none) res sz') {v0 : Nat} {v1 : Int32} {sz : Nat} (hf : b_X4_addSign_0 v0 v1 h  = some res) : SP l X M_X4_addSign 0 [(0, .ref v0), (1, .int v1)] [] h sz bc bs Q := by
  rw [b_X4_addSign_0] at hf
  refine sp_aload_n (pc := 0) dX4_addSign_0 0 rfl ?_
  obtain ⟨x1, ex1, hf⟩ := ob hf
  refine sp_gI (pc := 1) fl_RX4_15 dX4_addSign_1 ex1 ?_
  refine sp_aload_n (pc := 4) dX4_addSign_4 0 rfl ?_
  obtain ⟨x2, ex2, hf⟩ := ob hf
  refine sp_gR (pc := 5) fl_RX4_9 dX4_addSign_5 ex2 ?_
  obtain ⟨x3, ex3, hf⟩ := ob hf
  refine sp_aN (pc := 8) dX4_addSign_8 ex3 ?_
  refine sp_icmp_ge (pc := 9) (tgt := 32) dX4_addSign_9 (by decide) (fun c4 => ?_) (fun c4 => ?_)
  · rw [if_pos c4] at hf
    obtain rfl := Option.some.inj hf
    exact sp_return (pc := 32) dX4_addSign_32 rfl (hQ _)
  · rw [if_neg c4] at hf
    refine sp_aload_n (pc := 12) dX4_addSign_12 0 rfl ?_
    obtain ⟨x5, ex5, hf⟩ := ob hf
    refine sp_gR (pc := 13) fl_RX4_9 dX4_addSign_13 ex5 ?_
    refine sp_aload_n (pc := 16) dX4_addSign_16 0 rfl ?_
    obtain ⟨x6, ex6, hf⟩ := ob hf
    refine sp_gI (pc := 17) fl_RX4_15 dX4_addSign_17 ex6 ?_
    refine sp_iload_n (pc := 20) dX4_addSign_20 1 rfl ?_
    obtain ⟨h7, eh7, hf⟩ := ob hf
    refine sp_wI (pc := 21) dX4_addSign_21 eh7 (fun sz => ?_)
    refine sp_aload_n (pc := 22) dX4_addSign_22 0 rfl ?_
    refine sp_dup (pc := 23) dX4_addSign_23 rfl ?_
    obtain ⟨x8, ex8, hf⟩ := ob hf
    refine sp_gI (pc := 24) fl_RX4_15 dX4_addSign_24 ex8 ?_
    refine sp_iconst (pc := 27) (v := 1) dX4_addSign_27 (by decide) ?_
    refine sp_iadd (pc := 28) dX4_addSign_28 ?_
    obtain ⟨h9, eh9, hf⟩ := ob hf
    refine sp_pI (pc := 29) pf_RX4_15 dX4_addSign_29 eh9 (fun sz => ?_)
    obtain rfl := Option.some.inj hf
    exact sp_return (pc := 32) dX4_addSign_32 rfl (hQ _)

theorem o_X4_addSign {h : HP} {v0 : Nat} {v1 : Int32} {res : HP} (hf : f_X4_addSign h v0 v1 = some res) : ∃ fs, h v0 = some (.inr (4, fs)) := by
  obtain ⟨u, eu, -⟩ := ob hf
  exact kO_spec eu

theorem m_X4_addSign {l : Launch} {Q : PST} {h : HP} {v0 : Nat} {v1 : Int32} {sz : Nat} {res : HP} (hQ : ∀ sz', Q (.inl none) res sz') (hf : f_X4_addSign h v0 v1 = some res) : MM l M_X4_addSign [.ref v0, .int v1] h sz Q := by
  obtain ⟨u, eu, hf⟩ := ob hf
  exact MM_of wok_X4_addSign (by decide +kernel) (Nat.le_of_ble_eq_true rfl) ((w_X4_addSign_0 hQ hf))

theorem dX4_empty_0 : decode (mB M_X4_empty) 0 = .ok (.aload_n 0, 1) := by decide +kernel
theorem dX4_empty_1 : decode (mB M_X4_empty) 1 = .ok (.iconst 0, 1) := by decide +kernel
theorem dX4_empty_2 : decode (mB M_X4_empty) 2 = .ok (.putfield 15, 3) := by decide +kernel
theorem dX4_empty_5 : decode (mB M_X4_empty) 5 = .ok (.return_, 1) := by decide +kernel
def b_X4_empty_0 (v0 : Nat) (h : HP) : Option (HP) :=
  (pI 4 1 h v0 0).bind fun h1 => some h1
def f_X4_empty (h : HP) (v0 : Nat) : Option (HP) := (kO 4 h v0).bind fun _ => b_X4_empty_0 v0 h
theorem w_X4_empty_0 {l : Launch} {X : SCR} {Q : PST} {bc bs : Nat} {res : HP} {h : HP} (hQ : ∀ sz', Q (.inl none) res sz') {v0 : Nat} {sz : Nat} (hf : b_X4_empty_0 v0 h  = some res) : SP l X M_X4_empty 0 [(0, .ref v0)] [] h sz bc bs Q := by
  rw [b_X4_empty_0] at hf
  refine sp_aload_n (pc := 0) dX4_empty_0 0 rfl ?_
  refine sp_iconst (pc := 1) (v := 0) dX4_empty_1 (by decide) ?_
  obtain ⟨h1, eh1, hf⟩ := ob hf
  refine sp_pI (pc := 2) pf_RX4_15 dX4_empty_2 eh1 (fun sz => ?_)
  obtain rfl := Option.some.inj hf
  exact sp_return (pc := 5) dX4_empty_5 rfl (hQ _)

theorem o_X4_empty {h : HP} {v0 : Nat} {res : HP} (hf : f_X4_empty h v0 = some res) : ∃ fs, h v0 = some (.inr (4, fs)) := by
  obtain ⟨u, eu, -⟩ := ob hf
  exact kO_spec eu

theorem m_X4_empty {l : Launch} {Q : PST} {h : HP} {v0 : Nat} {sz : Nat} {res : HP} (hQ : ∀ sz', Q (.inl none) res sz') (hf : f_X4_empty h v0 = some res) : MM l M_X4_empty [.ref v0] h sz Q := by
  obtain ⟨u, eu, hf⟩ := ob hf
  exact MM_of wok_X4_empty (by decide +kernel) (Nat.le_of_ble_eq_true rfl) ((w_X4_empty_0 hQ hf))

theorem dX4_signAt_0 : decode (mB M_X4_signAt) 0 = .ok (.iload_n 1, 1) := by decide +kernel
theorem dX4_signAt_1 : decode (mB M_X4_signAt) 1 = .ok (.ifCond .lt 20, 3) := by decide +kernel
theorem dX4_signAt_4 : decode (mB M_X4_signAt) 4 = .ok (.iload_n 1, 1) := by decide +kernel
theorem dX4_signAt_5 : decode (mB M_X4_signAt) 5 = .ok (.aload_n 0, 1) := by decide +kernel
theorem dX4_signAt_6 : decode (mB M_X4_signAt) 6 = .ok (.getfield 15, 3) := by decide +kernel
theorem dX4_signAt_9 : decode (mB M_X4_signAt) 9 = .ok (.if_icmp .ge 12, 3) := by decide +kernel
theorem dX4_signAt_12 : decode (mB M_X4_signAt) 12 = .ok (.aload_n 0, 1) := by decide +kernel
theorem dX4_signAt_13 : decode (mB M_X4_signAt) 13 = .ok (.getfield 9, 3) := by decide +kernel
theorem dX4_signAt_16 : decode (mB M_X4_signAt) 16 = .ok (.iload_n 1, 1) := by decide +kernel
theorem dX4_signAt_17 : decode (mB M_X4_signAt) 17 = .ok (.iaload, 1) := by decide +kernel
theorem dX4_signAt_18 : decode (mB M_X4_signAt) 18 = .ok (.goto 4, 3) := by decide +kernel
theorem dX4_signAt_21 : decode (mB M_X4_signAt) 21 = .ok (.iconst (-1), 1) := by decide +kernel
theorem dX4_signAt_22 : decode (mB M_X4_signAt) 22 = .ok (.ireturn, 1) := by decide +kernel
def b_X4_signAt_0 (h : HP) (v0 : Nat) (v1 : Int32) : Option (Int32) :=
  if v1 < 0 then some ((-1)) else (gI 4 1 h v0).bind fun x2 => if x2 ≤ v1 then some ((-1)) else (gR 4 0 h v0).bind fun x4 => (aI h x4 v1).bind fun x5 => some (x5)
def f_X4_signAt (h : HP) (v0 : Nat) (v1 : Int32) : Option (Int32) := (kO 4 h v0).bind fun _ => b_X4_signAt_0 h v0 v1
theorem w_X4_signAt_0 {l : Launch} {X : SCR} {Q : PST} {bc bs : Nat} {res : Int32} {h : HP} (hQ : ∀ sz', Q (.inl (some (.int res))) h sz') {v0 : Nat} {v1 : Int32} {sz : Nat} (hf : b_X4_signAt_0 h v0 v1  = some res) : SP l X M_X4_signAt 0 [(0, .ref v0), (1, .int v1)] [] h sz bc bs Q := by
  rw [b_X4_signAt_0] at hf
  refine sp_iload_n (pc := 0) dX4_signAt_0 1 rfl ?_
  refine sp_if_lt (pc := 1) (tgt := 21) dX4_signAt_1 (by decide) (fun c1 => ?_) (fun c1 => ?_)
  · rw [if_pos c1] at hf
    refine sp_iconst (pc := 21) (v := (-1)) dX4_signAt_21 (by decide) ?_
    obtain rfl := Option.some.inj hf
    exact sp_ireturn (pc := 22) dX4_signAt_22 rfl rfl (hQ _)
  · rw [if_neg c1] at hf
    refine sp_iload_n (pc := 4) dX4_signAt_4 1 rfl ?_
    refine sp_aload_n (pc := 5) dX4_signAt_5 0 rfl ?_
    obtain ⟨x2, ex2, hf⟩ := ob hf
    refine sp_gI (pc := 6) fl_RX4_15 dX4_signAt_6 ex2 ?_
    refine sp_icmp_ge (pc := 9) (tgt := 21) dX4_signAt_9 (by decide) (fun c3 => ?_) (fun c3 => ?_)
    · rw [if_pos c3] at hf
      refine sp_iconst (pc := 21) (v := (-1)) dX4_signAt_21 (by decide) ?_
      obtain rfl := Option.some.inj hf
      exact sp_ireturn (pc := 22) dX4_signAt_22 rfl rfl (hQ _)
    · rw [if_neg c3] at hf
      refine sp_aload_n (pc := 12) dX4_signAt_12 0 rfl ?_
      obtain ⟨x4, ex4, hf⟩ := ob hf
      refine sp_gR (pc := 13) fl_RX4_9 dX4_signAt_13 ex4 ?_
      refine sp_iload_n (pc := 16) dX4_signAt_16 1 rfl ?_
      obtain ⟨x5, ex5, hf⟩ := ob hf
      refine sp_aI (pc := 17) dX4_signAt_17 ex5 ?_
      refine sp_goto (pc := 18) (tgt := 22) dX4_signAt_18 (by decide) ?_
      obtain rfl := Option.some.inj hf
      exact sp_ireturn (pc := 22) dX4_signAt_22 rfl rfl (hQ _)

theorem o_X4_signAt {h : HP} {v0 : Nat} {v1 : Int32} {res : Int32} (hf : f_X4_signAt h v0 v1 = some res) : ∃ fs, h v0 = some (.inr (4, fs)) := by
  obtain ⟨u, eu, -⟩ := ob hf
  exact kO_spec eu

theorem m_X4_signAt {l : Launch} {Q : PST} {h : HP} {v0 : Nat} {v1 : Int32} {sz : Nat} {res : Int32} (hQ : ∀ sz', Q (.inl (some (.int res))) h sz') (hf : f_X4_signAt h v0 v1 = some res) : MM l M_X4_signAt [.ref v0, .int v1] h sz Q := by
  obtain ⟨u, eu, hf⟩ := ob hf
  exact MM_of wok_X4_signAt (by decide +kernel) (Nat.le_of_ble_eq_true rfl) ((w_X4_signAt_0 hQ hf))

theorem dX4_isDigit_0 : decode (mB M_X4_isDigit) 0 = .ok (.aload_n 0, 1) := by decide +kernel
theorem dX4_isDigit_1 : decode (mB M_X4_isDigit) 1 = .ok (.iload_n 1, 1) := by decide +kernel
theorem dX4_isDigit_2 : decode (mB M_X4_isDigit) 2 = .ok (.invokevirtual 19, 3) := by decide +kernel
theorem dX4_isDigit_5 : decode (mB M_X4_isDigit) 5 = .ok (.bipush 48, 2) := by decide +kernel
theorem dX4_isDigit_7 : decode (mB M_X4_isDigit) 7 = .ok (.if_icmp .lt 17, 3) := by decide +kernel
theorem dX4_isDigit_10 : decode (mB M_X4_isDigit) 10 = .ok (.aload_n 0, 1) := by decide +kernel
theorem dX4_isDigit_11 : decode (mB M_X4_isDigit) 11 = .ok (.iload_n 1, 1) := by decide +kernel
theorem dX4_isDigit_12 : decode (mB M_X4_isDigit) 12 = .ok (.invokevirtual 19, 3) := by decide +kernel
theorem dX4_isDigit_15 : decode (mB M_X4_isDigit) 15 = .ok (.bipush 57, 2) := by decide +kernel
theorem dX4_isDigit_17 : decode (mB M_X4_isDigit) 17 = .ok (.if_icmp .gt 7, 3) := by decide +kernel
theorem dX4_isDigit_20 : decode (mB M_X4_isDigit) 20 = .ok (.iconst 1, 1) := by decide +kernel
theorem dX4_isDigit_21 : decode (mB M_X4_isDigit) 21 = .ok (.goto 4, 3) := by decide +kernel
theorem dX4_isDigit_24 : decode (mB M_X4_isDigit) 24 = .ok (.iconst 0, 1) := by decide +kernel
theorem dX4_isDigit_25 : decode (mB M_X4_isDigit) 25 = .ok (.ireturn, 1) := by decide +kernel
def b_X4_isDigit_0 (h : HP) (v0 : Nat) (v1 : Int32) : Option (Int32) :=
  (f_X4_signAt h v0 v1).bind fun y1 => if y1 < 48 then some (0) else (f_X4_signAt h v0 v1).bind fun y3 => if 57 < y3 then some (0) else some (1)
def f_X4_isDigit (h : HP) (v0 : Nat) (v1 : Int32) : Option (Int32) := (kO 4 h v0).bind fun _ => b_X4_isDigit_0 h v0 v1
theorem w_X4_isDigit_0 {l : Launch} {X : SCR} {Q : PST} {bc bs : Nat} {res : Int32} {h : HP} (hQ : ∀ sz', Q (.inl (some (.int res))) h sz') {v0 : Nat} {v1 : Int32} {sz : Nat} (hf : b_X4_isDigit_0 h v0 v1  = some res) : SP l X M_X4_isDigit 0 [(0, .ref v0), (1, .int v1)] [] h sz bc bs Q := by
  rw [b_X4_isDigit_0] at hf
  refine sp_aload_n (pc := 0) dX4_isDigit_0 0 rfl ?_
  refine sp_iload_n (pc := 1) dX4_isDigit_1 1 rfl ?_
  obtain ⟨y1, ey1, hf⟩ := ob hf
  obtain ⟨fsy1, hoy1⟩ := o_X4_signAt ey1
  refine sp_callVi (pc := 2) (z := M_X4_signAt) (As := [.int v1]) (b := v0) (bc2 := bc) (bs2 := bs) (m_X4_signAt (Q := _) (fun sz => ⟨y1, rfl, ?_⟩) ey1) rfl dX4_isDigit_2 hoy1 rfl rfl ck_X4_isDigit_19 (Nat.le_of_ble_eq_true rfl) rfl rfl rfl
  refine sp_bipush (pc := 5) (v := 48) dX4_isDigit_5 (by decide) ?_
  refine sp_icmp_lt (pc := 7) (tgt := 24) dX4_isDigit_7 (by decide) (fun c2 => ?_) (fun c2 => ?_)
  · rw [if_pos c2] at hf
    refine sp_iconst (pc := 24) (v := 0) dX4_isDigit_24 (by decide) ?_
    obtain rfl := Option.some.inj hf
    exact sp_ireturn (pc := 25) dX4_isDigit_25 rfl rfl (hQ _)
  · rw [if_neg c2] at hf
    refine sp_aload_n (pc := 10) dX4_isDigit_10 0 rfl ?_
    refine sp_iload_n (pc := 11) dX4_isDigit_11 1 rfl ?_
    obtain ⟨y3, ey3, hf⟩ := ob hf
    obtain ⟨fsy3, hoy3⟩ := o_X4_signAt ey3
    refine sp_callVi (pc := 12) (z := M_X4_signAt) (As := [.int v1]) (b := v0) (bc2 := bc) (bs2 := bs) (m_X4_signAt (Q := _) (fun sz => ⟨y3, rfl, ?_⟩) ey3) rfl dX4_isDigit_12 hoy3 rfl rfl ck_X4_isDigit_19 (Nat.le_of_ble_eq_true rfl) rfl rfl rfl
    refine sp_bipush (pc := 15) (v := 57) dX4_isDigit_15 (by decide) ?_
    refine sp_icmp_gt (pc := 17) (tgt := 24) dX4_isDigit_17 (by decide) (fun c4 => ?_) (fun c4 => ?_)
    · rw [if_pos c4] at hf
      refine sp_iconst (pc := 24) (v := 0) dX4_isDigit_24 (by decide) ?_
      obtain rfl := Option.some.inj hf
      exact sp_ireturn (pc := 25) dX4_isDigit_25 rfl rfl (hQ _)
    · rw [if_neg c4] at hf
      refine sp_iconst (pc := 20) (v := 1) dX4_isDigit_20 (by decide) ?_
      refine sp_goto (pc := 21) (tgt := 25) dX4_isDigit_21 (by decide) ?_
      obtain rfl := Option.some.inj hf
      exact sp_ireturn (pc := 25) dX4_isDigit_25 rfl rfl (hQ _)

theorem o_X4_isDigit {h : HP} {v0 : Nat} {v1 : Int32} {res : Int32} (hf : f_X4_isDigit h v0 v1 = some res) : ∃ fs, h v0 = some (.inr (4, fs)) := by
  obtain ⟨u, eu, -⟩ := ob hf
  exact kO_spec eu

theorem m_X4_isDigit {l : Launch} {Q : PST} {h : HP} {v0 : Nat} {v1 : Int32} {sz : Nat} {res : Int32} (hQ : ∀ sz', Q (.inl (some (.int res))) h sz') (hf : f_X4_isDigit h v0 v1 = some res) : MM l M_X4_isDigit [.ref v0, .int v1] h sz Q := by
  obtain ⟨u, eu, hf⟩ := ob hf
  exact MM_of wok_X4_isDigit (by decide +kernel) (Nat.le_of_ble_eq_true rfl) ((w_X4_isDigit_0 hQ hf))

theorem dX4_digitsAt_0 : decode (mB M_X4_digitsAt) 0 = .ok (.iconst 0, 1) := by decide +kernel
theorem dX4_digitsAt_1 : decode (mB M_X4_digitsAt) 1 = .ok (.istore_n 3, 1) := by decide +kernel
theorem dX4_digitsAt_2 : decode (mB M_X4_digitsAt) 2 = .ok (.iconst 0, 1) := by decide +kernel
theorem dX4_digitsAt_3 : decode (mB M_X4_digitsAt) 3 = .ok (.istore 4, 2) := by decide +kernel
theorem dX4_digitsAt_5 : decode (mB M_X4_digitsAt) 5 = .ok (.iload 4, 2) := by decide +kernel
theorem dX4_digitsAt_7 : decode (mB M_X4_digitsAt) 7 = .ok (.iload_n 2, 1) := by decide +kernel
theorem dX4_digitsAt_8 : decode (mB M_X4_digitsAt) 8 = .ok (.if_icmp .ge 26, 3) := by decide +kernel
theorem dX4_digitsAt_11 : decode (mB M_X4_digitsAt) 11 = .ok (.iload_n 3, 1) := by decide +kernel
theorem dX4_digitsAt_12 : decode (mB M_X4_digitsAt) 12 = .ok (.bipush 10, 2) := by decide +kernel
theorem dX4_digitsAt_14 : decode (mB M_X4_digitsAt) 14 = .ok (.imul, 1) := by decide +kernel
theorem dX4_digitsAt_15 : decode (mB M_X4_digitsAt) 15 = .ok (.aload_n 0, 1) := by decide +kernel
theorem dX4_digitsAt_16 : decode (mB M_X4_digitsAt) 16 = .ok (.iload_n 1, 1) := by decide +kernel
theorem dX4_digitsAt_17 : decode (mB M_X4_digitsAt) 17 = .ok (.iload 4, 2) := by decide +kernel
theorem dX4_digitsAt_19 : decode (mB M_X4_digitsAt) 19 = .ok (.iadd, 1) := by decide +kernel
theorem dX4_digitsAt_20 : decode (mB M_X4_digitsAt) 20 = .ok (.invokevirtual 19, 3) := by decide +kernel
theorem dX4_digitsAt_23 : decode (mB M_X4_digitsAt) 23 = .ok (.bipush 48, 2) := by decide +kernel
theorem dX4_digitsAt_25 : decode (mB M_X4_digitsAt) 25 = .ok (.isub, 1) := by decide +kernel
theorem dX4_digitsAt_26 : decode (mB M_X4_digitsAt) 26 = .ok (.iadd, 1) := by decide +kernel
theorem dX4_digitsAt_27 : decode (mB M_X4_digitsAt) 27 = .ok (.istore_n 3, 1) := by decide +kernel
theorem dX4_digitsAt_28 : decode (mB M_X4_digitsAt) 28 = .ok (.iinc 4 1, 3) := by decide +kernel
theorem dX4_digitsAt_31 : decode (mB M_X4_digitsAt) 31 = .ok (.goto (-26), 3) := by decide +kernel
theorem dX4_digitsAt_34 : decode (mB M_X4_digitsAt) 34 = .ok (.iload_n 3, 1) := by decide +kernel
theorem dX4_digitsAt_35 : decode (mB M_X4_digitsAt) 35 = .ok (.ireturn, 1) := by decide +kernel
def c_X4_digitsAt_5 (h : HP) (v0 : Nat) (v1 : Int32) (v2 : Int32) (k5 : Int32 → Int32 → Option (Int32)) (v3 : Int32) (v4 : Int32) : Option (Int32) :=
  if v2 ≤ v4 then some (v3) else (f_X4_signAt h v0 (v1 + v4)).bind fun y2 => k5 ((v3 * 10) + (y2 - 48)) (v4 + 1)
def b_X4_digitsAt_5 (h : HP) (v0 : Nat) (v1 : Int32) (v2 : Int32) : Nat → Int32 → Int32 → Option (Int32)
  | 0, _, _ => none
  | n + 1, v3, v4 => c_X4_digitsAt_5 h v0 v1 v2 (b_X4_digitsAt_5 h v0 v1 v2 n) v3 v4
def b_X4_digitsAt_0 (h : HP) (v0 : Nat) (v1 : Int32) (v2 : Int32) : Option (Int32) :=
  b_X4_digitsAt_5 h v0 v1 v2 FU 0 0
def f_X4_digitsAt (h : HP) (v0 : Nat) (v1 : Int32) (v2 : Int32) : Option (Int32) := (kO 4 h v0).bind fun _ => b_X4_digitsAt_0 h v0 v1 v2
theorem wc_X4_digitsAt_5 {l : Launch} {X : SCR} {Q : PST} {bc bs : Nat} {res : Int32} {h : HP} (hQ : ∀ sz', Q (.inl (some (.int res))) h sz') {v0 : Nat} {v1 : Int32} {v2 : Int32} {k5 : Int32 → Int32 → Option (Int32)} (hk5 : ∀ (v3 : Int32) (v4 : Int32) (sz : Nat), k5 v3 v4 = some res → SP l X M_X4_digitsAt 5 [(0, .ref v0), (1, .int v1), (2, .int v2), (3, .int v3), (4, .int v4)] [] h sz bc bs Q) {v3 : Int32} {v4 : Int32} {sz : Nat} (hf : c_X4_digitsAt_5 h v0 v1 v2 k5 v3 v4 = some res) : SP l X M_X4_digitsAt 5 [(0, .ref v0), (1, .int v1), (2, .int v2), (3, .int v3), (4, .int v4)] [] h sz bc bs Q := by
  rw [c_X4_digitsAt_5] at hf
  refine sp_iload (pc := 5) dX4_digitsAt_5 4 rfl ?_
  refine sp_iload_n (pc := 7) dX4_digitsAt_7 2 rfl ?_
  refine sp_icmp_ge (pc := 8) (tgt := 34) dX4_digitsAt_8 (by decide) (fun c1 => ?_) (fun c1 => ?_)
  · rw [if_pos c1] at hf
    refine sp_iload_n (pc := 34) dX4_digitsAt_34 3 rfl ?_
    obtain rfl := Option.some.inj hf
    exact sp_ireturn (pc := 35) dX4_digitsAt_35 rfl rfl (hQ _)
  · rw [if_neg c1] at hf
    refine sp_iload_n (pc := 11) dX4_digitsAt_11 3 rfl ?_
    refine sp_bipush (pc := 12) (v := 10) dX4_digitsAt_12 (by decide) ?_
    refine sp_imul (pc := 14) dX4_digitsAt_14 ?_
    refine sp_aload_n (pc := 15) dX4_digitsAt_15 0 rfl ?_
    refine sp_iload_n (pc := 16) dX4_digitsAt_16 1 rfl ?_
    refine sp_iload (pc := 17) dX4_digitsAt_17 4 rfl ?_
    refine sp_iadd (pc := 19) dX4_digitsAt_19 ?_
    obtain ⟨y2, ey2, hf⟩ := ob hf
    obtain ⟨fsy2, hoy2⟩ := o_X4_signAt ey2
    refine sp_callVi (pc := 20) (z := M_X4_signAt) (As := [.int (v1 + v4)]) (b := v0) (bc2 := bc) (bs2 := bs) (m_X4_signAt (Q := _) (fun sz => ⟨y2, rfl, ?_⟩) ey2) rfl dX4_digitsAt_20 hoy2 rfl rfl ck_X4_digitsAt_19 (Nat.le_of_ble_eq_true rfl) rfl rfl rfl
    refine sp_bipush (pc := 23) (v := 48) dX4_digitsAt_23 (by decide) ?_
    refine sp_isub (pc := 25) dX4_digitsAt_25 ?_
    refine sp_iadd (pc := 26) dX4_digitsAt_26 ?_
    refine sp_istore_n (pc := 27) (lv' := [(3, .int ((v3 * 10) + (y2 - 48))), (0, .ref v0), (1, .int v1), (2, .int v2), (4, .int v4)]) dX4_digitsAt_27 (by decide) rfl ?_
    refine sp_iinc (pc := 28) (v := v4 + 1) (lv' := [(4, .int (v4 + 1)), (3, .int ((v3 * 10) + (y2 - 48))), (0, .ref v0), (1, .int v1), (2, .int v2)]) dX4_digitsAt_28 4 rfl rfl (by decide) rfl ?_
    refine sp_goto (pc := 31) (tgt := 5) dX4_digitsAt_31 (by decide) ?_
    exact sp_sub [2, 3, 4, 1, 0] rfl (hk5 _ _ _ hf)

theorem w_X4_digitsAt_5 {l : Launch} {X : SCR} {Q : PST} {bc bs : Nat} {res : Int32} {h : HP} (hQ : ∀ sz', Q (.inl (some (.int res))) h sz') {v0 : Nat} {v1 : Int32} {v2 : Int32} : ∀ (n : Nat) {v3 : Int32} {v4 : Int32} {sz : Nat}, b_X4_digitsAt_5 h v0 v1 v2 n v3 v4 = some res → SP l X M_X4_digitsAt 5 [(0, .ref v0), (1, .int v1), (2, .int v2), (3, .int v3), (4, .int v4)] [] h sz bc bs Q := by
  intro n
  induction n with
  | zero =>
    intro v3 v4 sz hf
    rw [b_X4_digitsAt_5] at hf
    cases hf
  | succ n ih =>
    intro v3 v4 sz hf
    rw [b_X4_digitsAt_5] at hf
    exact wc_X4_digitsAt_5 hQ (fun v3 v4 sz hf => ih hf) hf

theorem w_X4_digitsAt_0 {l : Launch} {X : SCR} {Q : PST} {bc bs : Nat} {res : Int32} {h : HP} (hQ : ∀ sz', Q (.inl (some (.int res))) h sz') {v0 : Nat} {v1 : Int32} {v2 : Int32} {sz : Nat} (hf : b_X4_digitsAt_0 h v0 v1 v2  = some res) : SP l X M_X4_digitsAt 0 [(0, .ref v0), (1, .int v1), (2, .int v2)] [] h sz bc bs Q := by
  rw [b_X4_digitsAt_0] at hf
  refine sp_iconst (pc := 0) (v := 0) dX4_digitsAt_0 (by decide) ?_
  refine sp_istore_n (pc := 1) (lv' := [(3, .int 0), (0, .ref v0), (1, .int v1), (2, .int v2)]) dX4_digitsAt_1 (by decide) rfl ?_
  refine sp_iconst (pc := 2) (v := 0) dX4_digitsAt_2 (by decide) ?_
  refine sp_istore (pc := 3) (lv' := [(4, .int 0), (3, .int 0), (0, .ref v0), (1, .int v1), (2, .int v2)]) dX4_digitsAt_3 (by decide) rfl ?_
  exact sp_sub [2, 3, 4, 1, 0] rfl (w_X4_digitsAt_5 hQ FU hf)

theorem o_X4_digitsAt {h : HP} {v0 : Nat} {v1 : Int32} {v2 : Int32} {res : Int32} (hf : f_X4_digitsAt h v0 v1 v2 = some res) : ∃ fs, h v0 = some (.inr (4, fs)) := by
  obtain ⟨u, eu, -⟩ := ob hf
  exact kO_spec eu

theorem m_X4_digitsAt {l : Launch} {Q : PST} {h : HP} {v0 : Nat} {v1 : Int32} {v2 : Int32} {sz : Nat} {res : Int32} (hQ : ∀ sz', Q (.inl (some (.int res))) h sz') (hf : f_X4_digitsAt h v0 v1 v2 = some res) : MM l M_X4_digitsAt [.ref v0, .int v1, .int v2] h sz Q := by
  obtain ⟨u, eu, hf⟩ := ob hf
  exact MM_of wok_X4_digitsAt (by decide +kernel) (Nat.le_of_ble_eq_true rfl) ((w_X4_digitsAt_0 hQ hf))

theorem dX4_digitsOf_0 : decode (mB M_X4_digitsOf) 0 = .ok (.iload_n 0, 1) := by decide +kernel
theorem dX4_digitsOf_1 : decode (mB M_X4_digitsOf) 1 = .ok (.lookupswitch 71 #[(99, 65), (102, 67), (109, 63), (111, 69), (112, 59), (120, 61)], 59) := by decide +kernel
theorem dX4_digitsOf_60 : decode (mB M_X4_digitsOf) 60 = .ok (.iconst 5, 1) := by decide +kernel
theorem dX4_digitsOf_61 : decode (mB M_X4_digitsOf) 61 = .ok (.ireturn, 1) := by decide +kernel
theorem dX4_digitsOf_62 : decode (mB M_X4_digitsOf) 62 = .ok (.iconst 4, 1) := by decide +kernel
theorem dX4_digitsOf_63 : decode (mB M_X4_digitsOf) 63 = .ok (.ireturn, 1) := by decide +kernel
theorem dX4_digitsOf_64 : decode (mB M_X4_digitsOf) 64 = .ok (.iconst 1, 1) := by decide +kernel
theorem dX4_digitsOf_65 : decode (mB M_X4_digitsOf) 65 = .ok (.ireturn, 1) := by decide +kernel
theorem dX4_digitsOf_66 : decode (mB M_X4_digitsOf) 66 = .ok (.iconst 1, 1) := by decide +kernel
theorem dX4_digitsOf_67 : decode (mB M_X4_digitsOf) 67 = .ok (.ireturn, 1) := by decide +kernel
theorem dX4_digitsOf_68 : decode (mB M_X4_digitsOf) 68 = .ok (.iconst 0, 1) := by decide +kernel
theorem dX4_digitsOf_69 : decode (mB M_X4_digitsOf) 69 = .ok (.ireturn, 1) := by decide +kernel
theorem dX4_digitsOf_70 : decode (mB M_X4_digitsOf) 70 = .ok (.iconst 0, 1) := by decide +kernel
theorem dX4_digitsOf_71 : decode (mB M_X4_digitsOf) 71 = .ok (.ireturn, 1) := by decide +kernel
theorem dX4_digitsOf_72 : decode (mB M_X4_digitsOf) 72 = .ok (.iconst (-1), 1) := by decide +kernel
theorem dX4_digitsOf_73 : decode (mB M_X4_digitsOf) 73 = .ok (.ireturn, 1) := by decide +kernel
def b_X4_digitsOf_0 (h : HP) (v0 : Int32) : Option (Int32) :=
  if v0 = 99 then some (1) else if v0 = 102 then some (0) else if v0 = 109 then some (1) else if v0 = 111 then some (0) else if v0 = 112 then some (5) else if v0 = 120 then some (4) else some ((-1))
def f_X4_digitsOf (h : HP) (v0 : Int32) : Option (Int32) := b_X4_digitsOf_0 h v0
theorem w_X4_digitsOf_0 {l : Launch} {X : SCR} {Q : PST} {bc bs : Nat} {res : Int32} {h : HP} (hQ : ∀ sz', Q (.inl (some (.int res))) h sz') {v0 : Int32} {sz : Nat} (hf : b_X4_digitsOf_0 h v0  = some res) : SP l X M_X4_digitsOf 0 [(0, .int v0)] [] h sz bc bs Q := by
  rw [b_X4_digitsOf_0] at hf
  refine sp_iload_n (pc := 0) dX4_digitsOf_0 0 rfl ?_
  by_cases c1 : v0 = 99
  · rw [if_pos c1] at hf
    refine sp_lookup (pc := 1) (off := 65) (tgt := 66) dX4_digitsOf_1 (by decide) (by rw [c1]; rfl) (by decide) ?_
    refine sp_iconst (pc := 66) (v := 1) dX4_digitsOf_66 (by decide) ?_
    obtain rfl := Option.some.inj hf
    exact sp_ireturn (pc := 67) dX4_digitsOf_67 rfl rfl (hQ _)
  rw [if_neg c1] at hf
  by_cases c2 : v0 = 102
  · rw [if_pos c2] at hf
    refine sp_lookup (pc := 1) (off := 67) (tgt := 68) dX4_digitsOf_1 (by decide) (by rw [c2]; rfl) (by decide) ?_
    refine sp_iconst (pc := 68) (v := 0) dX4_digitsOf_68 (by decide) ?_
    obtain rfl := Option.some.inj hf
    exact sp_ireturn (pc := 69) dX4_digitsOf_69 rfl rfl (hQ _)
  rw [if_neg c2] at hf
  by_cases c3 : v0 = 109
  · rw [if_pos c3] at hf
    refine sp_lookup (pc := 1) (off := 63) (tgt := 64) dX4_digitsOf_1 (by decide) (by rw [c3]; rfl) (by decide) ?_
    refine sp_iconst (pc := 64) (v := 1) dX4_digitsOf_64 (by decide) ?_
    obtain rfl := Option.some.inj hf
    exact sp_ireturn (pc := 65) dX4_digitsOf_65 rfl rfl (hQ _)
  rw [if_neg c3] at hf
  by_cases c4 : v0 = 111
  · rw [if_pos c4] at hf
    refine sp_lookup (pc := 1) (off := 69) (tgt := 70) dX4_digitsOf_1 (by decide) (by rw [c4]; rfl) (by decide) ?_
    refine sp_iconst (pc := 70) (v := 0) dX4_digitsOf_70 (by decide) ?_
    obtain rfl := Option.some.inj hf
    exact sp_ireturn (pc := 71) dX4_digitsOf_71 rfl rfl (hQ _)
  rw [if_neg c4] at hf
  by_cases c5 : v0 = 112
  · rw [if_pos c5] at hf
    refine sp_lookup (pc := 1) (off := 59) (tgt := 60) dX4_digitsOf_1 (by decide) (by rw [c5]; rfl) (by decide) ?_
    refine sp_iconst (pc := 60) (v := 5) dX4_digitsOf_60 (by decide) ?_
    obtain rfl := Option.some.inj hf
    exact sp_ireturn (pc := 61) dX4_digitsOf_61 rfl rfl (hQ _)
  rw [if_neg c5] at hf
  by_cases c6 : v0 = 120
  · rw [if_pos c6] at hf
    refine sp_lookup (pc := 1) (off := 61) (tgt := 62) dX4_digitsOf_1 (by decide) (by rw [c6]; rfl) (by decide) ?_
    refine sp_iconst (pc := 62) (v := 4) dX4_digitsOf_62 (by decide) ?_
    obtain rfl := Option.some.inj hf
    exact sp_ireturn (pc := 63) dX4_digitsOf_63 rfl rfl (hQ _)
  rw [if_neg c6] at hf
  refine sp_lookup (pc := 1) (off := 71) (tgt := 72) dX4_digitsOf_1 (by decide) (lk_none (List.forall_mem_cons.mpr ⟨fun he => c1 (Int32.toInt_inj.mp (he.symm.trans (by decide))), List.forall_mem_cons.mpr ⟨fun he => c2 (Int32.toInt_inj.mp (he.symm.trans (by decide))), List.forall_mem_cons.mpr ⟨fun he => c3 (Int32.toInt_inj.mp (he.symm.trans (by decide))), List.forall_mem_cons.mpr ⟨fun he => c4 (Int32.toInt_inj.mp (he.symm.trans (by decide))), List.forall_mem_cons.mpr ⟨fun he => c5 (Int32.toInt_inj.mp (he.symm.trans (by decide))), List.forall_mem_cons.mpr ⟨fun he => c6 (Int32.toInt_inj.mp (he.symm.trans (by decide))), fun _ h => absurd h List.not_mem_nil⟩⟩⟩⟩⟩⟩)) (by decide) ?_
  refine sp_iconst (pc := 72) (v := (-1)) dX4_digitsOf_72 (by decide) ?_
  obtain rfl := Option.some.inj hf
  exact sp_ireturn (pc := 73) dX4_digitsOf_73 rfl rfl (hQ _)

theorem m_X4_digitsOf {l : Launch} {Q : PST} {h : HP} {v0 : Int32} {sz : Nat} {res : Int32} (hQ : ∀ sz', Q (.inl (some (.int res))) h sz') (hf : f_X4_digitsOf h v0 = some res) : MM l M_X4_digitsOf [.int v0] h sz Q := by
  rw [f_X4_digitsOf] at hf
  exact MM_of wok_X4_digitsOf (by decide +kernel) (Nat.le_of_ble_eq_true rfl) ((w_X4_digitsOf_0 hQ hf))

theorem dX4_digitFits_0 : decode (mB M_X4_digitFits) 0 = .ok (.aload_n 0, 1) := by decide +kernel
theorem dX4_digitFits_1 : decode (mB M_X4_digitFits) 1 = .ok (.iload_n 2, 1) := by decide +kernel
theorem dX4_digitFits_2 : decode (mB M_X4_digitFits) 2 = .ok (.invokevirtual 30, 3) := by decide +kernel
theorem dX4_digitFits_5 : decode (mB M_X4_digitFits) 5 = .ok (.ifCond .ne 5, 3) := by decide +kernel
theorem dX4_digitFits_8 : decode (mB M_X4_digitFits) 8 = .ok (.iconst 0, 1) := by decide +kernel
theorem dX4_digitFits_9 : decode (mB M_X4_digitFits) 9 = .ok (.ireturn, 1) := by decide +kernel
theorem dX4_digitFits_10 : decode (mB M_X4_digitFits) 10 = .ok (.aload_n 0, 1) := by decide +kernel
theorem dX4_digitFits_11 : decode (mB M_X4_digitFits) 11 = .ok (.iload_n 1, 1) := by decide +kernel
theorem dX4_digitFits_12 : decode (mB M_X4_digitFits) 12 = .ok (.invokevirtual 19, 3) := by decide +kernel
theorem dX4_digitFits_15 : decode (mB M_X4_digitFits) 15 = .ok (.lookupswitch 89 #[(99, 49), (109, 33), (112, 65)], 33) := by decide +kernel
theorem dX4_digitFits_48 : decode (mB M_X4_digitFits) 48 = .ok (.aload_n 0, 1) := by decide +kernel
theorem dX4_digitFits_49 : decode (mB M_X4_digitFits) 49 = .ok (.iload_n 2, 1) := by decide +kernel
theorem dX4_digitFits_50 : decode (mB M_X4_digitFits) 50 = .ok (.invokevirtual 19, 3) := by decide +kernel
theorem dX4_digitFits_53 : decode (mB M_X4_digitFits) 53 = .ok (.bipush 52, 2) := by decide +kernel
theorem dX4_digitFits_55 : decode (mB M_X4_digitFits) 55 = .ok (.if_icmp .gt 7, 3) := by decide +kernel
theorem dX4_digitFits_58 : decode (mB M_X4_digitFits) 58 = .ok (.iconst 1, 1) := by decide +kernel
theorem dX4_digitFits_59 : decode (mB M_X4_digitFits) 59 = .ok (.goto 4, 3) := by decide +kernel
theorem dX4_digitFits_62 : decode (mB M_X4_digitFits) 62 = .ok (.iconst 0, 1) := by decide +kernel
theorem dX4_digitFits_63 : decode (mB M_X4_digitFits) 63 = .ok (.ireturn, 1) := by decide +kernel
theorem dX4_digitFits_64 : decode (mB M_X4_digitFits) 64 = .ok (.aload_n 0, 1) := by decide +kernel
theorem dX4_digitFits_65 : decode (mB M_X4_digitFits) 65 = .ok (.iload_n 2, 1) := by decide +kernel
theorem dX4_digitFits_66 : decode (mB M_X4_digitFits) 66 = .ok (.invokevirtual 19, 3) := by decide +kernel
theorem dX4_digitFits_69 : decode (mB M_X4_digitFits) 69 = .ok (.bipush 49, 2) := by decide +kernel
theorem dX4_digitFits_71 : decode (mB M_X4_digitFits) 71 = .ok (.if_icmp .gt 7, 3) := by decide +kernel
theorem dX4_digitFits_74 : decode (mB M_X4_digitFits) 74 = .ok (.iconst 1, 1) := by decide +kernel
theorem dX4_digitFits_75 : decode (mB M_X4_digitFits) 75 = .ok (.goto 4, 3) := by decide +kernel
theorem dX4_digitFits_78 : decode (mB M_X4_digitFits) 78 = .ok (.iconst 0, 1) := by decide +kernel
theorem dX4_digitFits_79 : decode (mB M_X4_digitFits) 79 = .ok (.ireturn, 1) := by decide +kernel
theorem dX4_digitFits_80 : decode (mB M_X4_digitFits) 80 = .ok (.iload_n 2, 1) := by decide +kernel
theorem dX4_digitFits_81 : decode (mB M_X4_digitFits) 81 = .ok (.iload_n 1, 1) := by decide +kernel
theorem dX4_digitFits_82 : decode (mB M_X4_digitFits) 82 = .ok (.iconst 5, 1) := by decide +kernel
theorem dX4_digitFits_83 : decode (mB M_X4_digitFits) 83 = .ok (.iadd, 1) := by decide +kernel
theorem dX4_digitFits_84 : decode (mB M_X4_digitFits) 84 = .ok (.if_icmp .lt 14, 3) := by decide +kernel
theorem dX4_digitFits_87 : decode (mB M_X4_digitFits) 87 = .ok (.aload_n 0, 1) := by decide +kernel
theorem dX4_digitFits_88 : decode (mB M_X4_digitFits) 88 = .ok (.iload_n 1, 1) := by decide +kernel
theorem dX4_digitFits_89 : decode (mB M_X4_digitFits) 89 = .ok (.iconst 3, 1) := by decide +kernel
theorem dX4_digitFits_90 : decode (mB M_X4_digitFits) 90 = .ok (.iadd, 1) := by decide +kernel
theorem dX4_digitFits_91 : decode (mB M_X4_digitFits) 91 = .ok (.iconst 3, 1) := by decide +kernel
theorem dX4_digitFits_92 : decode (mB M_X4_digitFits) 92 = .ok (.invokevirtual 34, 3) := by decide +kernel
theorem dX4_digitFits_95 : decode (mB M_X4_digitFits) 95 = .ok (.ifCond .le 7, 3) := by decide +kernel
theorem dX4_digitFits_98 : decode (mB M_X4_digitFits) 98 = .ok (.iconst 1, 1) := by decide +kernel
theorem dX4_digitFits_99 : decode (mB M_X4_digitFits) 99 = .ok (.goto 4, 3) := by decide +kernel
theorem dX4_digitFits_102 : decode (mB M_X4_digitFits) 102 = .ok (.iconst 0, 1) := by decide +kernel
theorem dX4_digitFits_103 : decode (mB M_X4_digitFits) 103 = .ok (.ireturn, 1) := by decide +kernel
theorem dX4_digitFits_104 : decode (mB M_X4_digitFits) 104 = .ok (.iconst 1, 1) := by decide +kernel
theorem dX4_digitFits_105 : decode (mB M_X4_digitFits) 105 = .ok (.ireturn, 1) := by decide +kernel
def b_X4_digitFits_0 (h : HP) (v0 : Nat) (v1 : Int32) (v2 : Int32) : Option (Int32) :=
  (f_X4_isDigit h v0 v2).bind fun y1 => if y1 = 0 then some (0) else (f_X4_signAt h v0 v1).bind fun y3 => if y3 = 99 then (f_X4_signAt h v0 v2).bind fun y5 => if 49 < y5 then some (0) else some (1) else if y3 = 109 then (f_X4_signAt h v0 v2).bind fun y8 => if 52 < y8 then some (0) else some (1) else if y3 = 112 then if v2 < (v1 + 5) then some (1) else (f_X4_digitsAt h v0 (v1 + 3) 3).bind fun y12 => if y12 ≤ 0 then some (0) else some (1) else some (1)
def f_X4_digitFits (h : HP) (v0 : Nat) (v1 : Int32) (v2 : Int32) : Option (Int32) := (kO 4 h v0).bind fun _ => b_X4_digitFits_0 h v0 v1 v2
theorem w_X4_digitFits_0 {l : Launch} {X : SCR} {Q : PST} {bc bs : Nat} {res : Int32} {h : HP} (hQ : ∀ sz', Q (.inl (some (.int res))) h sz') {v0 : Nat} {v1 : Int32} {v2 : Int32} {sz : Nat} (hf : b_X4_digitFits_0 h v0 v1 v2  = some res) : SP l X M_X4_digitFits 0 [(0, .ref v0), (1, .int v1), (2, .int v2)] [] h sz bc bs Q := by
  rw [b_X4_digitFits_0] at hf
  refine sp_aload_n (pc := 0) dX4_digitFits_0 0 rfl ?_
  refine sp_iload_n (pc := 1) dX4_digitFits_1 2 rfl ?_
  obtain ⟨y1, ey1, hf⟩ := ob hf
  obtain ⟨fsy1, hoy1⟩ := o_X4_isDigit ey1
  refine sp_callVi (pc := 2) (z := M_X4_isDigit) (As := [.int v2]) (b := v0) (bc2 := bc) (bs2 := bs) (m_X4_isDigit (Q := _) (fun sz => ⟨y1, rfl, ?_⟩) ey1) rfl dX4_digitFits_2 hoy1 rfl rfl ck_X4_digitFits_30 (Nat.le_of_ble_eq_true rfl) rfl rfl rfl
  refine sp_if_ne (pc := 5) (tgt := 10) dX4_digitFits_5 (by decide) (fun c2 => ?_) (fun c2 => ?_)
  · rw [if_neg c2] at hf
    refine sp_aload_n (pc := 10) dX4_digitFits_10 0 rfl ?_
    refine sp_iload_n (pc := 11) dX4_digitFits_11 1 rfl ?_
    obtain ⟨y3, ey3, hf⟩ := ob hf
    obtain ⟨fsy3, hoy3⟩ := o_X4_signAt ey3
    refine sp_callVi (pc := 12) (z := M_X4_signAt) (As := [.int v1]) (b := v0) (bc2 := bc) (bs2 := bs) (m_X4_signAt (Q := _) (fun sz => ⟨y3, rfl, ?_⟩) ey3) rfl dX4_digitFits_12 hoy3 rfl rfl ck_X4_digitFits_19 (Nat.le_of_ble_eq_true rfl) rfl rfl rfl
    by_cases c4 : y3 = 99
    · rw [if_pos c4] at hf
      refine sp_lookup (pc := 15) (off := 49) (tgt := 64) dX4_digitFits_15 (by decide) (by rw [c4]; rfl) (by decide) ?_
      refine sp_aload_n (pc := 64) dX4_digitFits_64 0 rfl ?_
      refine sp_iload_n (pc := 65) dX4_digitFits_65 2 rfl ?_
      obtain ⟨y5, ey5, hf⟩ := ob hf
      obtain ⟨fsy5, hoy5⟩ := o_X4_signAt ey5
      refine sp_callVi (pc := 66) (z := M_X4_signAt) (As := [.int v2]) (b := v0) (bc2 := bc) (bs2 := bs) (m_X4_signAt (Q := _) (fun sz => ⟨y5, rfl, ?_⟩) ey5) rfl dX4_digitFits_66 hoy5 rfl rfl ck_X4_digitFits_19 (Nat.le_of_ble_eq_true rfl) rfl rfl rfl
      refine sp_bipush (pc := 69) (v := 49) dX4_digitFits_69 (by decide) ?_
      refine sp_icmp_gt (pc := 71) (tgt := 78) dX4_digitFits_71 (by decide) (fun c6 => ?_) (fun c6 => ?_)
      · rw [if_pos c6] at hf
        refine sp_iconst (pc := 78) (v := 0) dX4_digitFits_78 (by decide) ?_
        obtain rfl := Option.some.inj hf
        exact sp_ireturn (pc := 79) dX4_digitFits_79 rfl rfl (hQ _)
      · rw [if_neg c6] at hf
        refine sp_iconst (pc := 74) (v := 1) dX4_digitFits_74 (by decide) ?_
        refine sp_goto (pc := 75) (tgt := 79) dX4_digitFits_75 (by decide) ?_
        obtain rfl := Option.some.inj hf
        exact sp_ireturn (pc := 79) dX4_digitFits_79 rfl rfl (hQ _)
    rw [if_neg c4] at hf
    by_cases c7 : y3 = 109
    · rw [if_pos c7] at hf
      refine sp_lookup (pc := 15) (off := 33) (tgt := 48) dX4_digitFits_15 (by decide) (by rw [c7]; rfl) (by decide) ?_
      refine sp_aload_n (pc := 48) dX4_digitFits_48 0 rfl ?_
      refine sp_iload_n (pc := 49) dX4_digitFits_49 2 rfl ?_
      obtain ⟨y8, ey8, hf⟩ := ob hf
      obtain ⟨fsy8, hoy8⟩ := o_X4_signAt ey8
      refine sp_callVi (pc := 50) (z := M_X4_signAt) (As := [.int v2]) (b := v0) (bc2 := bc) (bs2 := bs) (m_X4_signAt (Q := _) (fun sz => ⟨y8, rfl, ?_⟩) ey8) rfl dX4_digitFits_50 hoy8 rfl rfl ck_X4_digitFits_19 (Nat.le_of_ble_eq_true rfl) rfl rfl rfl
      refine sp_bipush (pc := 53) (v := 52) dX4_digitFits_53 (by decide) ?_
      refine sp_icmp_gt (pc := 55) (tgt := 62) dX4_digitFits_55 (by decide) (fun c9 => ?_) (fun c9 => ?_)
      · rw [if_pos c9] at hf
        refine sp_iconst (pc := 62) (v := 0) dX4_digitFits_62 (by decide) ?_
        obtain rfl := Option.some.inj hf
        exact sp_ireturn (pc := 63) dX4_digitFits_63 rfl rfl (hQ _)
      · rw [if_neg c9] at hf
        refine sp_iconst (pc := 58) (v := 1) dX4_digitFits_58 (by decide) ?_
        refine sp_goto (pc := 59) (tgt := 63) dX4_digitFits_59 (by decide) ?_
        obtain rfl := Option.some.inj hf
        exact sp_ireturn (pc := 63) dX4_digitFits_63 rfl rfl (hQ _)
    rw [if_neg c7] at hf
    by_cases c10 : y3 = 112
    · rw [if_pos c10] at hf
      refine sp_lookup (pc := 15) (off := 65) (tgt := 80) dX4_digitFits_15 (by decide) (by rw [c10]; rfl) (by decide) ?_
      refine sp_iload_n (pc := 80) dX4_digitFits_80 2 rfl ?_
      refine sp_iload_n (pc := 81) dX4_digitFits_81 1 rfl ?_
      refine sp_iconst (pc := 82) (v := 5) dX4_digitFits_82 (by decide) ?_
      refine sp_iadd (pc := 83) dX4_digitFits_83 ?_
      refine sp_icmp_lt (pc := 84) (tgt := 98) dX4_digitFits_84 (by decide) (fun c11 => ?_) (fun c11 => ?_)
      · rw [if_pos c11] at hf
        refine sp_iconst (pc := 98) (v := 1) dX4_digitFits_98 (by decide) ?_
        refine sp_goto (pc := 99) (tgt := 103) dX4_digitFits_99 (by decide) ?_
        obtain rfl := Option.some.inj hf
        exact sp_ireturn (pc := 103) dX4_digitFits_103 rfl rfl (hQ _)
      · rw [if_neg c11] at hf
        refine sp_aload_n (pc := 87) dX4_digitFits_87 0 rfl ?_
        refine sp_iload_n (pc := 88) dX4_digitFits_88 1 rfl ?_
        refine sp_iconst (pc := 89) (v := 3) dX4_digitFits_89 (by decide) ?_
        refine sp_iadd (pc := 90) dX4_digitFits_90 ?_
        refine sp_iconst (pc := 91) (v := 3) dX4_digitFits_91 (by decide) ?_
        obtain ⟨y12, ey12, hf⟩ := ob hf
        obtain ⟨fsy12, hoy12⟩ := o_X4_digitsAt ey12
        refine sp_callVi (pc := 92) (z := M_X4_digitsAt) (As := [.int (v1 + 3), .int 3]) (b := v0) (bc2 := bc) (bs2 := bs) (m_X4_digitsAt (Q := _) (fun sz => ⟨y12, rfl, ?_⟩) ey12) rfl dX4_digitFits_92 hoy12 rfl rfl ck_X4_digitFits_34 (Nat.le_of_ble_eq_true rfl) rfl rfl rfl
        refine sp_if_le (pc := 95) (tgt := 102) dX4_digitFits_95 (by decide) (fun c13 => ?_) (fun c13 => ?_)
        · rw [if_pos c13] at hf
          refine sp_iconst (pc := 102) (v := 0) dX4_digitFits_102 (by decide) ?_
          obtain rfl := Option.some.inj hf
          exact sp_ireturn (pc := 103) dX4_digitFits_103 rfl rfl (hQ _)
        · rw [if_neg c13] at hf
          refine sp_iconst (pc := 98) (v := 1) dX4_digitFits_98 (by decide) ?_
          refine sp_goto (pc := 99) (tgt := 103) dX4_digitFits_99 (by decide) ?_
          obtain rfl := Option.some.inj hf
          exact sp_ireturn (pc := 103) dX4_digitFits_103 rfl rfl (hQ _)
    rw [if_neg c10] at hf
    refine sp_lookup (pc := 15) (off := 89) (tgt := 104) dX4_digitFits_15 (by decide) (lk_none (List.forall_mem_cons.mpr ⟨fun he => c4 (Int32.toInt_inj.mp (he.symm.trans (by decide))), List.forall_mem_cons.mpr ⟨fun he => c7 (Int32.toInt_inj.mp (he.symm.trans (by decide))), List.forall_mem_cons.mpr ⟨fun he => c10 (Int32.toInt_inj.mp (he.symm.trans (by decide))), fun _ h => absurd h List.not_mem_nil⟩⟩⟩)) (by decide) ?_
    refine sp_iconst (pc := 104) (v := 1) dX4_digitFits_104 (by decide) ?_
    obtain rfl := Option.some.inj hf
    exact sp_ireturn (pc := 105) dX4_digitFits_105 rfl rfl (hQ _)
  · rw [if_pos c2] at hf
    refine sp_iconst (pc := 8) (v := 0) dX4_digitFits_8 (by decide) ?_
    obtain rfl := Option.some.inj hf
    exact sp_ireturn (pc := 9) dX4_digitFits_9 rfl rfl (hQ _)

theorem o_X4_digitFits {h : HP} {v0 : Nat} {v1 : Int32} {v2 : Int32} {res : Int32} (hf : f_X4_digitFits h v0 v1 v2 = some res) : ∃ fs, h v0 = some (.inr (4, fs)) := by
  obtain ⟨u, eu, -⟩ := ob hf
  exact kO_spec eu

theorem m_X4_digitFits {l : Launch} {Q : PST} {h : HP} {v0 : Nat} {v1 : Int32} {v2 : Int32} {sz : Nat} {res : Int32} (hQ : ∀ sz', Q (.inl (some (.int res))) h sz') (hf : f_X4_digitFits h v0 v1 v2 = some res) : MM l M_X4_digitFits [.ref v0, .int v1, .int v2] h sz Q := by
  obtain ⟨u, eu, hf⟩ := ob hf
  exact MM_of wok_X4_digitFits (by decide +kernel) (Nat.le_of_ble_eq_true rfl) ((w_X4_digitFits_0 hQ hf))

theorem dX4_firstError_0 : decode (mB M_X4_firstError) 0 = .ok (.aload_n 0, 1) := by decide +kernel
theorem dX4_firstError_1 : decode (mB M_X4_firstError) 1 = .ok (.iconst 0, 1) := by decide +kernel
theorem dX4_firstError_2 : decode (mB M_X4_firstError) 2 = .ok (.invokevirtual 19, 3) := by decide +kernel
theorem dX4_firstError_5 : decode (mB M_X4_firstError) 5 = .ok (.bipush 71, 2) := by decide +kernel
theorem dX4_firstError_7 : decode (mB M_X4_firstError) 7 = .ok (.if_icmp .eq 5, 3) := by decide +kernel
theorem dX4_firstError_10 : decode (mB M_X4_firstError) 10 = .ok (.iconst 0, 1) := by decide +kernel
theorem dX4_firstError_11 : decode (mB M_X4_firstError) 11 = .ok (.ireturn, 1) := by decide +kernel
theorem dX4_firstError_12 : decode (mB M_X4_firstError) 12 = .ok (.iconst 0, 1) := by decide +kernel
theorem dX4_firstError_13 : decode (mB M_X4_firstError) 13 = .ok (.istore_n 1, 1) := by decide +kernel
theorem dX4_firstError_14 : decode (mB M_X4_firstError) 14 = .ok (.iconst 0, 1) := by decide +kernel
theorem dX4_firstError_15 : decode (mB M_X4_firstError) 15 = .ok (.istore_n 2, 1) := by decide +kernel
theorem dX4_firstError_16 : decode (mB M_X4_firstError) 16 = .ok (.iconst 1, 1) := by decide +kernel
theorem dX4_firstError_17 : decode (mB M_X4_firstError) 17 = .ok (.istore_n 3, 1) := by decide +kernel
theorem dX4_firstError_18 : decode (mB M_X4_firstError) 18 = .ok (.iload_n 3, 1) := by decide +kernel
theorem dX4_firstError_19 : decode (mB M_X4_firstError) 19 = .ok (.aload_n 0, 1) := by decide +kernel
theorem dX4_firstError_20 : decode (mB M_X4_firstError) 20 = .ok (.getfield 15, 3) := by decide +kernel
theorem dX4_firstError_23 : decode (mB M_X4_firstError) 23 = .ok (.if_icmp .ge 48, 3) := by decide +kernel
theorem dX4_firstError_26 : decode (mB M_X4_firstError) 26 = .ok (.iload_n 2, 1) := by decide +kernel
theorem dX4_firstError_27 : decode (mB M_X4_firstError) 27 = .ok (.ifCond .ne 21, 3) := by decide +kernel
theorem dX4_firstError_30 : decode (mB M_X4_firstError) 30 = .ok (.iload_n 3, 1) := by decide +kernel
theorem dX4_firstError_31 : decode (mB M_X4_firstError) 31 = .ok (.istore_n 1, 1) := by decide +kernel
theorem dX4_firstError_32 : decode (mB M_X4_firstError) 32 = .ok (.aload_n 0, 1) := by decide +kernel
theorem dX4_firstError_33 : decode (mB M_X4_firstError) 33 = .ok (.iload_n 3, 1) := by decide +kernel
theorem dX4_firstError_34 : decode (mB M_X4_firstError) 34 = .ok (.invokevirtual 19, 3) := by decide +kernel
theorem dX4_firstError_37 : decode (mB M_X4_firstError) 37 = .ok (.invokestatic 23, 3) := by decide +kernel
theorem dX4_firstError_40 : decode (mB M_X4_firstError) 40 = .ok (.istore_n 2, 1) := by decide +kernel
theorem dX4_firstError_41 : decode (mB M_X4_firstError) 41 = .ok (.iload_n 2, 1) := by decide +kernel
theorem dX4_firstError_42 : decode (mB M_X4_firstError) 42 = .ok (.iconst (-1), 1) := by decide +kernel
theorem dX4_firstError_43 : decode (mB M_X4_firstError) 43 = .ok (.if_icmp .ne 22, 3) := by decide +kernel
theorem dX4_firstError_46 : decode (mB M_X4_firstError) 46 = .ok (.iload_n 3, 1) := by decide +kernel
theorem dX4_firstError_47 : decode (mB M_X4_firstError) 47 = .ok (.ireturn, 1) := by decide +kernel
theorem dX4_firstError_48 : decode (mB M_X4_firstError) 48 = .ok (.aload_n 0, 1) := by decide +kernel
theorem dX4_firstError_49 : decode (mB M_X4_firstError) 49 = .ok (.iload_n 1, 1) := by decide +kernel
theorem dX4_firstError_50 : decode (mB M_X4_firstError) 50 = .ok (.iload_n 3, 1) := by decide +kernel
theorem dX4_firstError_51 : decode (mB M_X4_firstError) 51 = .ok (.invokevirtual 26, 3) := by decide +kernel
theorem dX4_firstError_54 : decode (mB M_X4_firstError) 54 = .ok (.ifCond .eq 9, 3) := by decide +kernel
theorem dX4_firstError_57 : decode (mB M_X4_firstError) 57 = .ok (.iinc 2 (-1), 3) := by decide +kernel
theorem dX4_firstError_60 : decode (mB M_X4_firstError) 60 = .ok (.goto 5, 3) := by decide +kernel
theorem dX4_firstError_63 : decode (mB M_X4_firstError) 63 = .ok (.iload_n 3, 1) := by decide +kernel
theorem dX4_firstError_64 : decode (mB M_X4_firstError) 64 = .ok (.ireturn, 1) := by decide +kernel
theorem dX4_firstError_65 : decode (mB M_X4_firstError) 65 = .ok (.iinc 3 1, 3) := by decide +kernel
theorem dX4_firstError_68 : decode (mB M_X4_firstError) 68 = .ok (.goto (-50), 3) := by decide +kernel
theorem dX4_firstError_71 : decode (mB M_X4_firstError) 71 = .ok (.iload_n 2, 1) := by decide +kernel
theorem dX4_firstError_72 : decode (mB M_X4_firstError) 72 = .ok (.ifCond .le 10, 3) := by decide +kernel
theorem dX4_firstError_75 : decode (mB M_X4_firstError) 75 = .ok (.aload_n 0, 1) := by decide +kernel
theorem dX4_firstError_76 : decode (mB M_X4_firstError) 76 = .ok (.getfield 15, 3) := by decide +kernel
theorem dX4_firstError_79 : decode (mB M_X4_firstError) 79 = .ok (.goto 4, 3) := by decide +kernel
theorem dX4_firstError_82 : decode (mB M_X4_firstError) 82 = .ok (.iconst (-1), 1) := by decide +kernel
theorem dX4_firstError_83 : decode (mB M_X4_firstError) 83 = .ok (.ireturn, 1) := by decide +kernel
def c_X4_firstError_18 (h : HP) (v0 : Nat) (k18 : Int32 → Int32 → Int32 → Option (Int32)) (v1 : Int32) (v2 : Int32) (v3 : Int32) : Option (Int32) :=
  (gI 4 1 h v0).bind fun x1 => if x1 ≤ v3 then if v2 ≤ 0 then some ((-1)) else (gI 4 1 h v0).bind fun x4 => some (x4) else if v2 = 0 then (f_X4_signAt h v0 v3).bind fun y8 => (f_X4_digitsOf h y8).bind fun y9 => if y9 = (-1) then some (v3) else k18 v3 y9 (v3 + 1) else (f_X4_digitFits h v0 v1 v3).bind fun y6 => if y6 = 0 then some (v3) else k18 v1 (v2 + (-1)) (v3 + 1)
def b_X4_firstError_18 (h : HP) (v0 : Nat) : Nat → Int32 → Int32 → Int32 → Option (Int32)
  | 0, _, _, _ => none
  | n + 1, v1, v2, v3 => c_X4_firstError_18 h v0 (b_X4_firstError_18 h v0 n) v1 v2 v3
def b_X4_firstError_0 (h : HP) (v0 : Nat) : Option (Int32) :=
  (f_X4_signAt h v0 0).bind fun y1 => if y1 = 71 then b_X4_firstError_18 h v0 FU 0 0 1 else some (0)
def f_X4_firstError (h : HP) (v0 : Nat) : Option (Int32) := (kO 4 h v0).bind fun _ => b_X4_firstError_0 h v0
theorem wc_X4_firstError_18 {l : Launch} {X : SCR} {Q : PST} {bc bs : Nat} {res : Int32} {h : HP} (hQ : ∀ sz', Q (.inl (some (.int res))) h sz') {v0 : Nat} {k18 : Int32 → Int32 → Int32 → Option (Int32)} (hk18 : ∀ (v1 : Int32) (v2 : Int32) (v3 : Int32) (sz : Nat), k18 v1 v2 v3 = some res → SP l X M_X4_firstError 18 [(0, .ref v0), (1, .int v1), (2, .int v2), (3, .int v3)] [] h sz bc bs Q) {v1 : Int32} {v2 : Int32} {v3 : Int32} {sz : Nat} (hf : c_X4_firstError_18 h v0 k18 v1 v2 v3 = some res) : SP l X M_X4_firstError 18 [(0, .ref v0), (1, .int v1), (2, .int v2), (3, .int v3)] [] h sz bc bs Q := by
  rw [c_X4_firstError_18] at hf
  refine sp_iload_n (pc := 18) dX4_firstError_18 3 rfl ?_
  refine sp_aload_n (pc := 19) dX4_firstError_19 0 rfl ?_
  obtain ⟨x1, ex1, hf⟩ := ob hf
  refine sp_gI (pc := 20) fl_RX4_15 dX4_firstError_20 ex1 ?_
  refine sp_icmp_ge (pc := 23) (tgt := 71) dX4_firstError_23 (by decide) (fun c2 => ?_) (fun c2 => ?_)
  · rw [if_pos c2] at hf
    refine sp_iload_n (pc := 71) dX4_firstError_71 2 rfl ?_
    refine sp_if_le (pc := 72) (tgt := 82) dX4_firstError_72 (by decide) (fun c3 => ?_) (fun c3 => ?_)
    · rw [if_pos c3] at hf
      refine sp_iconst (pc := 82) (v := (-1)) dX4_firstError_82 (by decide) ?_
      obtain rfl := Option.some.inj hf
      exact sp_ireturn (pc := 83) dX4_firstError_83 rfl rfl (hQ _)
    · rw [if_neg c3] at hf
      refine sp_aload_n (pc := 75) dX4_firstError_75 0 rfl ?_
      obtain ⟨x4, ex4, hf⟩ := ob hf
      refine sp_gI (pc := 76) fl_RX4_15 dX4_firstError_76 ex4 ?_
      refine sp_goto (pc := 79) (tgt := 83) dX4_firstError_79 (by decide) ?_
      obtain rfl := Option.some.inj hf
      exact sp_ireturn (pc := 83) dX4_firstError_83 rfl rfl (hQ _)
  · rw [if_neg c2] at hf
    refine sp_iload_n (pc := 26) dX4_firstError_26 2 rfl ?_
    refine sp_if_ne (pc := 27) (tgt := 48) dX4_firstError_27 (by decide) (fun c5 => ?_) (fun c5 => ?_)
    · rw [if_neg c5] at hf
      refine sp_aload_n (pc := 48) dX4_firstError_48 0 rfl ?_
      refine sp_iload_n (pc := 49) dX4_firstError_49 1 rfl ?_
      refine sp_iload_n (pc := 50) dX4_firstError_50 3 rfl ?_
      obtain ⟨y6, ey6, hf⟩ := ob hf
      obtain ⟨fsy6, hoy6⟩ := o_X4_digitFits ey6
      refine sp_callVi (pc := 51) (z := M_X4_digitFits) (As := [.int v1, .int v3]) (b := v0) (bc2 := bc) (bs2 := bs) (m_X4_digitFits (Q := _) (fun sz => ⟨y6, rfl, ?_⟩) ey6) rfl dX4_firstError_51 hoy6 rfl rfl ck_X4_firstError_26 (Nat.le_of_ble_eq_true rfl) rfl rfl rfl
      refine sp_if_eq (pc := 54) (tgt := 63) dX4_firstError_54 (by decide) (fun c7 => ?_) (fun c7 => ?_)
      · rw [if_pos c7] at hf
        refine sp_iload_n (pc := 63) dX4_firstError_63 3 rfl ?_
        obtain rfl := Option.some.inj hf
        exact sp_ireturn (pc := 64) dX4_firstError_64 rfl rfl (hQ _)
      · rw [if_neg c7] at hf
        refine sp_iinc (pc := 57) (v := v2 + (-1)) (lv' := [(2, .int (v2 + (-1))), (0, .ref v0), (1, .int v1), (3, .int v3)]) dX4_firstError_57 2 rfl rfl (by decide) rfl ?_
        refine sp_goto (pc := 60) (tgt := 65) dX4_firstError_60 (by decide) ?_
        refine sp_iinc (pc := 65) (v := v3 + 1) (lv' := [(3, .int (v3 + 1)), (2, .int (v2 + (-1))), (0, .ref v0), (1, .int v1)]) dX4_firstError_65 3 rfl rfl (by decide) rfl ?_
        refine sp_goto (pc := 68) (tgt := 18) dX4_firstError_68 (by decide) ?_
        exact sp_sub [2, 3, 1, 0] rfl (hk18 _ _ _ _ hf)
    · rw [if_pos c5] at hf
      refine sp_iload_n (pc := 30) dX4_firstError_30 3 rfl ?_
      refine sp_istore_n (pc := 31) (lv' := [(1, .int v3), (0, .ref v0), (2, .int v2), (3, .int v3)]) dX4_firstError_31 (by decide) rfl ?_
      refine sp_aload_n (pc := 32) dX4_firstError_32 1 rfl ?_
      refine sp_iload_n (pc := 33) dX4_firstError_33 3 rfl ?_
      obtain ⟨y8, ey8, hf⟩ := ob hf
      obtain ⟨fsy8, hoy8⟩ := o_X4_signAt ey8
      refine sp_callVi (pc := 34) (z := M_X4_signAt) (As := [.int v3]) (b := v0) (bc2 := bc) (bs2 := bs) (m_X4_signAt (Q := _) (fun sz => ⟨y8, rfl, ?_⟩) ey8) rfl dX4_firstError_34 hoy8 rfl rfl ck_X4_firstError_19 (Nat.le_of_ble_eq_true rfl) rfl rfl rfl
      obtain ⟨y9, ey9, hf⟩ := ob hf
      refine sp_callSi (pc := 37) (z := M_X4_digitsOf) (As := [.int y8]) (bc2 := bc) (bs2 := bs) (m_X4_digitsOf (Q := _) (fun sz => ⟨y9, rfl, ?_⟩) ey9) rfl dX4_firstError_37 rfl ck_X4_firstError_23 (Nat.le_of_ble_eq_true rfl) rfl rfl rfl
      refine sp_istore_n (pc := 40) (lv' := [(2, .int y9), (1, .int v3), (0, .ref v0), (3, .int v3)]) dX4_firstError_40 (by decide) rfl ?_
      refine sp_iload_n (pc := 41) dX4_firstError_41 0 rfl ?_
      refine sp_iconst (pc := 42) (v := (-1)) dX4_firstError_42 (by decide) ?_
      refine sp_icmp_ne (pc := 43) (tgt := 65) dX4_firstError_43 (by decide) (fun c10 => ?_) (fun c10 => ?_)
      · rw [if_neg c10] at hf
        refine sp_iinc (pc := 65) (v := v3 + 1) (lv' := [(3, .int (v3 + 1)), (2, .int y9), (1, .int v3), (0, .ref v0)]) dX4_firstError_65 3 rfl rfl (by decide) rfl ?_
        refine sp_goto (pc := 68) (tgt := 18) dX4_firstError_68 (by decide) ?_
        exact sp_sub [3, 2, 1, 0] rfl (hk18 _ _ _ _ hf)
      · rw [if_pos c10] at hf
        refine sp_iload_n (pc := 46) dX4_firstError_46 3 rfl ?_
        obtain rfl := Option.some.inj hf
        exact sp_ireturn (pc := 47) dX4_firstError_47 rfl rfl (hQ _)

theorem w_X4_firstError_18 {l : Launch} {X : SCR} {Q : PST} {bc bs : Nat} {res : Int32} {h : HP} (hQ : ∀ sz', Q (.inl (some (.int res))) h sz') {v0 : Nat} : ∀ (n : Nat) {v1 : Int32} {v2 : Int32} {v3 : Int32} {sz : Nat}, b_X4_firstError_18 h v0 n v1 v2 v3 = some res → SP l X M_X4_firstError 18 [(0, .ref v0), (1, .int v1), (2, .int v2), (3, .int v3)] [] h sz bc bs Q := by
  intro n
  induction n with
  | zero =>
    intro v1 v2 v3 sz hf
    rw [b_X4_firstError_18] at hf
    cases hf
  | succ n ih =>
    intro v1 v2 v3 sz hf
    rw [b_X4_firstError_18] at hf
    exact wc_X4_firstError_18 hQ (fun v1 v2 v3 sz hf => ih hf) hf

theorem w_X4_firstError_0 {l : Launch} {X : SCR} {Q : PST} {bc bs : Nat} {res : Int32} {h : HP} (hQ : ∀ sz', Q (.inl (some (.int res))) h sz') {v0 : Nat} {sz : Nat} (hf : b_X4_firstError_0 h v0  = some res) : SP l X M_X4_firstError 0 [(0, .ref v0)] [] h sz bc bs Q := by
  rw [b_X4_firstError_0] at hf
  refine sp_aload_n (pc := 0) dX4_firstError_0 0 rfl ?_
  refine sp_iconst (pc := 1) (v := 0) dX4_firstError_1 (by decide) ?_
  obtain ⟨y1, ey1, hf⟩ := ob hf
  obtain ⟨fsy1, hoy1⟩ := o_X4_signAt ey1
  refine sp_callVi (pc := 2) (z := M_X4_signAt) (As := [.int 0]) (b := v0) (bc2 := bc) (bs2 := bs) (m_X4_signAt (Q := _) (fun sz => ⟨y1, rfl, ?_⟩) ey1) rfl dX4_firstError_2 hoy1 rfl rfl ck_X4_firstError_19 (Nat.le_of_ble_eq_true rfl) rfl rfl rfl
  refine sp_bipush (pc := 5) (v := 71) dX4_firstError_5 (by decide) ?_
  refine sp_icmp_eq (pc := 7) (tgt := 12) dX4_firstError_7 (by decide) (fun c2 => ?_) (fun c2 => ?_)
  · rw [if_pos c2] at hf
    refine sp_iconst (pc := 12) (v := 0) dX4_firstError_12 (by decide) ?_
    refine sp_istore_n (pc := 13) (lv' := [(1, .int 0), (0, .ref v0)]) dX4_firstError_13 (by decide) rfl ?_
    refine sp_iconst (pc := 14) (v := 0) dX4_firstError_14 (by decide) ?_
    refine sp_istore_n (pc := 15) (lv' := [(2, .int 0), (1, .int 0), (0, .ref v0)]) dX4_firstError_15 (by decide) rfl ?_
    refine sp_iconst (pc := 16) (v := 1) dX4_firstError_16 (by decide) ?_
    refine sp_istore_n (pc := 17) (lv' := [(3, .int 1), (2, .int 0), (1, .int 0), (0, .ref v0)]) dX4_firstError_17 (by decide) rfl ?_
    exact sp_sub [3, 2, 1, 0] rfl (w_X4_firstError_18 hQ FU hf)
  · rw [if_neg c2] at hf
    refine sp_iconst (pc := 10) (v := 0) dX4_firstError_10 (by decide) ?_
    obtain rfl := Option.some.inj hf
    exact sp_ireturn (pc := 11) dX4_firstError_11 rfl rfl (hQ _)

theorem o_X4_firstError {h : HP} {v0 : Nat} {res : Int32} (hf : f_X4_firstError h v0 = some res) : ∃ fs, h v0 = some (.inr (4, fs)) := by
  obtain ⟨u, eu, -⟩ := ob hf
  exact kO_spec eu

theorem m_X4_firstError {l : Launch} {Q : PST} {h : HP} {v0 : Nat} {sz : Nat} {res : Int32} (hQ : ∀ sz', Q (.inl (some (.int res))) h sz') (hf : f_X4_firstError h v0 = some res) : MM l M_X4_firstError [.ref v0] h sz Q := by
  obtain ⟨u, eu, hf⟩ := ob hf
  exact MM_of wok_X4_firstError (by decide +kernel) (Nat.le_of_ble_eq_true rfl) ((w_X4_firstError_0 hQ hf))

theorem dX5_init_0 : decode (mB M_X5_init) 0 = .ok (.aload_n 0, 1) := by decide +kernel
theorem dX5_init_1 : decode (mB M_X5_init) 1 = .ok (.invokespecial 3, 3) := by decide +kernel
theorem dX5_init_4 : decode (mB M_X5_init) 4 = .ok (.aload_n 0, 1) := by decide +kernel
theorem dX5_init_5 : decode (mB M_X5_init) 5 = .ok (.bipush 100, 2) := by decide +kernel
theorem dX5_init_7 : decode (mB M_X5_init) 7 = .ok (.newarray .int, 2) := by decide +kernel
theorem dX5_init_9 : decode (mB M_X5_init) 9 = .ok (.putfield 9, 3) := by decide +kernel
theorem dX5_init_12 : decode (mB M_X5_init) 12 = .ok (.return_, 1) := by decide +kernel
def b_X5_init_0 (v0 : Nat) (h : HP) (q bc bs : Nat) : Option (HP × Nat) :=
  (alN bc bs 100).bind fun b1 => (nwI h q 100).bind fun h2 => (pR 5 0 h2 v0 q).bind fun h3 => some (h3, q + 1)
def f_X5_init (h : HP) (q : Nat) (v0 : Nat) : Option (HP × Nat) := b_X5_init_0 v0 h q 1 100
theorem w_X5_init_0 {l : Launch} {X : SCR} {Q : PST} {res : HP × Nat} {h : HP} {q bc bs : Nat} (hQ : Q (.inl none) res.1 res.2) {v0 : Nat} (hf : b_X5_init_0 v0 h q bc bs  = some res) : SP l X M_X5_init 0 [(0, .ref v0)] [] h q bc bs Q := by
  rw [b_X5_init_0] at hf
  refine sp_aload_n (pc := 0) dX5_init_0 0 rfl ?_
  refine sp_objInit (pc := 1) bk_226 bk_88 bk_89 dX5_init_1 (by decide) (Nat.le_of_ble_eq_true rfl) ?_
  refine sp_aload_n (pc := 4) dX5_init_4 0 rfl ?_
  refine sp_bipush (pc := 5) (v := 100) dX5_init_5 (by decide) ?_
  obtain ⟨b1, eb1, hf⟩ := ob hf
  obtain ⟨h2, eh2, hf⟩ := ob hf
  obtain rfl := Option.some.inj eh2
  obtain ⟨g1b1, g2b1, g3b1, g4b1⟩ := alN_spec eb1
  refine sp_newaI (pc := 7) (bc2 := b1.1) (bs2 := b1.2) bk_121 dX5_init_7 g1b1 rfl (Nat.le_trans (Nat.mul_le_mul_left _ (by decide)) g2b1) g3b1 g4b1 (fun hfr => ?_)
  obtain ⟨h3, eh3, hf⟩ := ob hf
  refine sp_pRF (pc := 9) pf_RX5_9 rfl dX5_init_9 rfl rfl eh3 ?_
  obtain rfl := Option.some.inj hf
  exact sp_return (pc := 12) dX5_init_12 rfl hQ

theorem m_X5_init {l : Launch} {Q : PST} {h : HP} {v0 : Nat} {sz : Nat} {res : HP × Nat} (hQ : Q (.inl none) res.1 res.2) (hf : f_X5_init h sz v0 = some res) : MM l M_X5_init [.ref v0] h sz Q := by
  rw [f_X5_init] at hf
  exact MM_of wok_X5_init (by decide +kernel) (Nat.le_of_ble_eq_true rfl) ((w_X5_init_0 hQ hf))

theorem dJ7_fill_53178_0 : decode (mB M_J7_fill_53178) 0 = .ok (.iconst 0, 1) := by decide +kernel
theorem dJ7_fill_53178_1 : decode (mB M_J7_fill_53178) 1 = .ok (.istore_n 2, 1) := by decide +kernel
theorem dJ7_fill_53178_2 : decode (mB M_J7_fill_53178) 2 = .ok (.aload_n 0, 1) := by decide +kernel
theorem dJ7_fill_53178_3 : decode (mB M_J7_fill_53178) 3 = .ok (.arraylength, 1) := by decide +kernel
theorem dJ7_fill_53178_4 : decode (mB M_J7_fill_53178) 4 = .ok (.istore_n 3, 1) := by decide +kernel
theorem dJ7_fill_53178_5 : decode (mB M_J7_fill_53178) 5 = .ok (.iload_n 2, 1) := by decide +kernel
theorem dJ7_fill_53178_6 : decode (mB M_J7_fill_53178) 6 = .ok (.iload_n 3, 1) := by decide +kernel
theorem dJ7_fill_53178_7 : decode (mB M_J7_fill_53178) 7 = .ok (.if_icmp .ge 13, 3) := by decide +kernel
theorem dJ7_fill_53178_10 : decode (mB M_J7_fill_53178) 10 = .ok (.aload_n 0, 1) := by decide +kernel
theorem dJ7_fill_53178_11 : decode (mB M_J7_fill_53178) 11 = .ok (.iload_n 2, 1) := by decide +kernel
theorem dJ7_fill_53178_12 : decode (mB M_J7_fill_53178) 12 = .ok (.iload_n 1, 1) := by decide +kernel
theorem dJ7_fill_53178_13 : decode (mB M_J7_fill_53178) 13 = .ok (.iastore, 1) := by decide +kernel
theorem dJ7_fill_53178_14 : decode (mB M_J7_fill_53178) 14 = .ok (.iinc 2 1, 3) := by decide +kernel
theorem dJ7_fill_53178_17 : decode (mB M_J7_fill_53178) 17 = .ok (.goto (-12), 3) := by decide +kernel
theorem dJ7_fill_53178_20 : decode (mB M_J7_fill_53178) 20 = .ok (.return_, 1) := by decide +kernel
def c_J7_fill_53178_5 (v0 : Nat) (v1 : Int32) (k5 : HP → Int32 → Int32 → Option (HP)) (h : HP) (v2 : Int32) (v3 : Int32) : Option (HP) :=
  if v3 ≤ v2 then some h else (wI h v0 v2 v1).bind fun h2 => k5 h2 (v2 + 1) v3
def b_J7_fill_53178_5 (v0 : Nat) (v1 : Int32) : Nat → HP → Int32 → Int32 → Option (HP)
  | 0, _, _, _ => none
  | n + 1, h, v2, v3 => c_J7_fill_53178_5 v0 v1 (b_J7_fill_53178_5 v0 v1 n) h v2 v3
def b_J7_fill_53178_0 (v0 : Nat) (v1 : Int32) (h : HP) : Option (HP) :=
  (aN h v0).bind fun x1 => b_J7_fill_53178_5 v0 v1 FU h 0 x1
def f_J7_fill_53178 (h : HP) (v0 : Nat) (v1 : Int32) : Option (HP) := b_J7_fill_53178_0 v0 v1 h
theorem wc_J7_fill_53178_5 {l : Launch} {X : SCR} {Q : PST} {bc bs : Nat} {res : HP} (hQ : ∀ sz', Q (.inl none) res sz') {v0 : Nat} {v1 : Int32} {k5 : HP → Int32 → Int32 → Option (HP)} (hk5 : ∀ (h : HP) (v2 : Int32) (v3 : Int32) (sz : Nat), k5 h v2 v3 = some res → SP l X M_J7_fill_53178 5 [(0, .ref v0), (1, .int v1), (2, .int v2), (3, .int v3)] [] h sz bc bs Q) {h : HP} {v2 : Int32} {v3 : Int32} {sz : Nat} (hf : c_J7_fill_53178_5 v0 v1 k5 h v2 v3 = some res) : SP l X M_J7_fill_53178 5 [(0, .ref v0), (1, .int v1), (2, .int v2), (3, .int v3)] [] h sz bc bs Q := by
  rw [c_J7_fill_53178_5] at hf
  refine sp_iload_n (pc := 5) dJ7_fill_53178_5 2 rfl ?_
  refine sp_iload_n (pc := 6) dJ7_fill_53178_6 3 rfl ?_
  refine sp_icmp_ge (pc := 7) (tgt := 20) dJ7_fill_53178_7 (by decide) (fun c1 => ?_) (fun c1 => ?_)
  · rw [if_pos c1] at hf
    obtain rfl := Option.some.inj hf
    exact sp_return (pc := 20) dJ7_fill_53178_20 rfl (hQ _)
  · rw [if_neg c1] at hf
    refine sp_aload_n (pc := 10) dJ7_fill_53178_10 0 rfl ?_
    refine sp_iload_n (pc := 11) dJ7_fill_53178_11 2 rfl ?_
    refine sp_iload_n (pc := 12) dJ7_fill_53178_12 1 rfl ?_
    obtain ⟨h2, eh2, hf⟩ := ob hf
    refine sp_wI (pc := 13) dJ7_fill_53178_13 eh2 (fun sz => ?_)
    refine sp_iinc (pc := 14) (v := v2 + 1) (lv' := [(2, .int (v2 + 1)), (0, .ref v0), (1, .int v1), (3, .int v3)]) dJ7_fill_53178_14 2 rfl rfl (by decide) rfl ?_
    refine sp_goto (pc := 17) (tgt := 5) dJ7_fill_53178_17 (by decide) ?_
    exact sp_sub [1, 2, 0, 3] rfl (hk5 _ _ _ _ hf)

theorem w_J7_fill_53178_5 {l : Launch} {X : SCR} {Q : PST} {bc bs : Nat} {res : HP} (hQ : ∀ sz', Q (.inl none) res sz') {v0 : Nat} {v1 : Int32} : ∀ (n : Nat) {h : HP} {v2 : Int32} {v3 : Int32} {sz : Nat}, b_J7_fill_53178_5 v0 v1 n h v2 v3 = some res → SP l X M_J7_fill_53178 5 [(0, .ref v0), (1, .int v1), (2, .int v2), (3, .int v3)] [] h sz bc bs Q := by
  intro n
  induction n with
  | zero =>
    intro h v2 v3 sz hf
    rw [b_J7_fill_53178_5] at hf
    cases hf
  | succ n ih =>
    intro h v2 v3 sz hf
    rw [b_J7_fill_53178_5] at hf
    exact wc_J7_fill_53178_5 hQ (fun h v2 v3 sz hf => ih hf) hf

theorem w_J7_fill_53178_0 {l : Launch} {X : SCR} {Q : PST} {bc bs : Nat} {res : HP} {h : HP} (hQ : ∀ sz', Q (.inl none) res sz') {v0 : Nat} {v1 : Int32} {sz : Nat} (hf : b_J7_fill_53178_0 v0 v1 h  = some res) : SP l X M_J7_fill_53178 0 [(0, .ref v0), (1, .int v1)] [] h sz bc bs Q := by
  rw [b_J7_fill_53178_0] at hf
  refine sp_iconst (pc := 0) (v := 0) dJ7_fill_53178_0 (by decide) ?_
  refine sp_istore_n (pc := 1) (lv' := [(2, .int 0), (0, .ref v0), (1, .int v1)]) dJ7_fill_53178_1 (by decide) rfl ?_
  refine sp_aload_n (pc := 2) dJ7_fill_53178_2 1 rfl ?_
  obtain ⟨x1, ex1, hf⟩ := ob hf
  refine sp_aN (pc := 3) dJ7_fill_53178_3 ex1 ?_
  refine sp_istore_n (pc := 4) (lv' := [(3, .int x1), (2, .int 0), (0, .ref v0), (1, .int v1)]) dJ7_fill_53178_4 (by decide) rfl ?_
  exact sp_sub [2, 3, 1, 0] rfl (w_J7_fill_53178_5 hQ FU hf)

theorem m_J7_fill_53178 {l : Launch} {Q : PST} {h : HP} {v0 : Nat} {v1 : Int32} {sz : Nat} {res : HP} (hQ : ∀ sz', Q (.inl none) res sz') (hf : f_J7_fill_53178 h v0 v1 = some res) : MM l M_J7_fill_53178 [.ref v0, .int v1] h sz Q := by
  rw [f_J7_fill_53178] at hf
  exact MM_of wok_J7_fill_53178 (by decide +kernel) (Nat.le_of_ble_eq_true rfl) ((w_J7_fill_53178_0 hQ hf))

theorem dX5_look_0 : decode (mB M_X5_look) 0 = .ok (.aload_n 0, 1) := by decide +kernel
theorem dX5_look_1 : decode (mB M_X5_look) 1 = .ok (.getfield 9, 3) := by decide +kernel
theorem dX5_look_4 : decode (mB M_X5_look) 4 = .ok (.iconst 0, 1) := by decide +kernel
theorem dX5_look_5 : decode (mB M_X5_look) 5 = .ok (.invokestatic 15, 3) := by decide +kernel
theorem dX5_look_8 : decode (mB M_X5_look) 8 = .ok (.aload_n 1, 1) := by decide +kernel
theorem dX5_look_9 : decode (mB M_X5_look) 9 = .ok (.getfield 21, 3) := by decide +kernel
theorem dX5_look_12 : decode (mB M_X5_look) 12 = .ok (.astore_n 3, 1) := by decide +kernel
theorem dX5_look_13 : decode (mB M_X5_look) 13 = .ok (.iconst 0, 1) := by decide +kernel
theorem dX5_look_14 : decode (mB M_X5_look) 14 = .ok (.istore 4, 2) := by decide +kernel
theorem dX5_look_16 : decode (mB M_X5_look) 16 = .ok (.iload 4, 2) := by decide +kernel
theorem dX5_look_18 : decode (mB M_X5_look) 18 = .ok (.aload_n 3, 1) := by decide +kernel
theorem dX5_look_19 : decode (mB M_X5_look) 19 = .ok (.invokevirtual 27, 3) := by decide +kernel
theorem dX5_look_22 : decode (mB M_X5_look) 22 = .ok (.if_icmp .ge 68, 3) := by decide +kernel
theorem dX5_look_25 : decode (mB M_X5_look) 25 = .ok (.aload_n 3, 1) := by decide +kernel
theorem dX5_look_26 : decode (mB M_X5_look) 26 = .ok (.iload 4, 2) := by decide +kernel
theorem dX5_look_28 : decode (mB M_X5_look) 28 = .ok (.invokevirtual 33, 3) := by decide +kernel
theorem dX5_look_31 : decode (mB M_X5_look) 31 = .ok (.iload_n 2, 1) := by decide +kernel
theorem dX5_look_32 : decode (mB M_X5_look) 32 = .ok (.if_icmp .gt 58, 3) := by decide +kernel
theorem dX5_look_35 : decode (mB M_X5_look) 35 = .ok (.aload_n 3, 1) := by decide +kernel
theorem dX5_look_36 : decode (mB M_X5_look) 36 = .ok (.iload 4, 2) := by decide +kernel
theorem dX5_look_38 : decode (mB M_X5_look) 38 = .ok (.invokevirtual 37, 3) := by decide +kernel
theorem dX5_look_41 : decode (mB M_X5_look) 41 = .ok (.iconst 0, 1) := by decide +kernel
theorem dX5_look_42 : decode (mB M_X5_look) 42 = .ok (.invokestatic 40, 3) := by decide +kernel
theorem dX5_look_45 : decode (mB M_X5_look) 45 = .ok (.istore 5, 2) := by decide +kernel
theorem dX5_look_47 : decode (mB M_X5_look) 47 = .ok (.iload 5, 2) := by decide +kernel
theorem dX5_look_49 : decode (mB M_X5_look) 49 = .ok (.aload_n 3, 1) := by decide +kernel
theorem dX5_look_50 : decode (mB M_X5_look) 50 = .ok (.iload 4, 2) := by decide +kernel
theorem dX5_look_52 : decode (mB M_X5_look) 52 = .ok (.invokevirtual 46, 3) := by decide +kernel
theorem dX5_look_55 : decode (mB M_X5_look) 55 = .ok (.if_icmp .gt 29, 3) := by decide +kernel
theorem dX5_look_58 : decode (mB M_X5_look) 58 = .ok (.iload 5, 2) := by decide +kernel
theorem dX5_look_60 : decode (mB M_X5_look) 60 = .ok (.bipush 100, 2) := by decide +kernel
theorem dX5_look_62 : decode (mB M_X5_look) 62 = .ok (.if_icmp .ge 22, 3) := by decide +kernel
theorem dX5_look_65 : decode (mB M_X5_look) 65 = .ok (.aload_n 0, 1) := by decide +kernel
theorem dX5_look_66 : decode (mB M_X5_look) 66 = .ok (.getfield 9, 3) := by decide +kernel
theorem dX5_look_69 : decode (mB M_X5_look) 69 = .ok (.iload 5, 2) := by decide +kernel
theorem dX5_look_71 : decode (mB M_X5_look) 71 = .ok (.aload_n 3, 1) := by decide +kernel
theorem dX5_look_72 : decode (mB M_X5_look) 72 = .ok (.iload 4, 2) := by decide +kernel
theorem dX5_look_74 : decode (mB M_X5_look) 74 = .ok (.invokevirtual 49, 3) := by decide +kernel
theorem dX5_look_77 : decode (mB M_X5_look) 77 = .ok (.iastore, 1) := by decide +kernel
theorem dX5_look_78 : decode (mB M_X5_look) 78 = .ok (.iinc 5 1, 3) := by decide +kernel
theorem dX5_look_81 : decode (mB M_X5_look) 81 = .ok (.goto (-34), 3) := by decide +kernel
theorem dX5_look_84 : decode (mB M_X5_look) 84 = .ok (.iinc 4 1, 3) := by decide +kernel
theorem dX5_look_87 : decode (mB M_X5_look) 87 = .ok (.goto (-71), 3) := by decide +kernel
theorem dX5_look_90 : decode (mB M_X5_look) 90 = .ok (.return_, 1) := by decide +kernel
def c_X5_look_47 (v0 : Nat) (v2 : Int32) (k16 : HP → Nat → Int32 → Option (HP)) (k47 : HP → Nat → Int32 → Int32 → Option (HP)) (h : HP) (v3 : Nat) (v4 : Int32) (v5 : Int32) : Option (HP) :=
  (f_X6_lastAt h v3 v4).bind fun y1 => if y1 < v5 then k16 h v3 (v4 + 1) else if 100 ≤ v5 then k16 h v3 (v4 + 1) else (gR 5 0 h v0).bind fun x4 => (f_X6_valueAt h v3 v4).bind fun y5 => (wI h x4 v5 y5).bind fun h6 => k47 h6 v3 v4 (v5 + 1)
def b_X5_look_47 (v0 : Nat) (v2 : Int32) (k16 : HP → Nat → Int32 → Option (HP)) : Nat → HP → Nat → Int32 → Int32 → Option (HP)
  | 0, _, _, _, _ => none
  | n + 1, h, v3, v4, v5 => c_X5_look_47 v0 v2 k16 (b_X5_look_47 v0 v2 k16 n) h v3 v4 v5
def c_X5_look_16 (v0 : Nat) (v2 : Int32) (k16 : HP → Nat → Int32 → Option (HP)) (h : HP) (v3 : Nat) (v4 : Int32) : Option (HP) :=
  (f_X6_size h v3).bind fun y1 => if y1 ≤ v4 then some h else (f_X6_numberAt h v3 v4).bind fun y3 => if v2 < y3 then some h else (f_X6_firstAt h v3 v4).bind fun y5 => b_X5_look_47 v0 v2 k16 FU h v3 v4 (jmax y5 0)
def b_X5_look_16 (v0 : Nat) (v2 : Int32) : Nat → HP → Nat → Int32 → Option (HP)
  | 0, _, _, _ => none
  | n + 1, h, v3, v4 => c_X5_look_16 v0 v2 (b_X5_look_16 v0 v2 n) h v3 v4
def b_X5_look_0 (v0 : Nat) (v1 : Nat) (v2 : Int32) (h : HP) : Option (HP) :=
  (gR 5 0 h v0).bind fun x1 => (f_J7_fill_53178 h x1 0).bind fun y2 => (gR 3 1 y2 v1).bind fun x3 => b_X5_look_16 v0 v2 FU y2 x3 0
def f_X5_look (h : HP) (v0 : Nat) (v1 : Nat) (v2 : Int32) : Option (HP) := (kO 5 h v0).bind fun _ => b_X5_look_0 v0 v1 v2 h
theorem wc_X5_look_47 {l : Launch} {X : SCR} {Q : PST} {bc bs : Nat} {res : HP} (hQ : ∀ sz', Q (.inl none) res sz') {v0 : Nat} {v2 : Int32} {k16 : HP → Nat → Int32 → Option (HP)} (hk16 : ∀ (h : HP) (v3 : Nat) (v4 : Int32) (sz : Nat), k16 h v3 v4 = some res → SP l X M_X5_look 16 [(0, .ref v0), (2, .int v2), (3, .ref v3), (4, .int v4)] [] h sz bc bs Q) {k47 : HP → Nat → Int32 → Int32 → Option (HP)} (hk47 : ∀ (h : HP) (v3 : Nat) (v4 : Int32) (v5 : Int32) (sz : Nat), k47 h v3 v4 v5 = some res → SP l X M_X5_look 47 [(0, .ref v0), (2, .int v2), (3, .ref v3), (4, .int v4), (5, .int v5)] [] h sz bc bs Q) {h : HP} {v3 : Nat} {v4 : Int32} {v5 : Int32} {sz : Nat} (hf : c_X5_look_47 v0 v2 k16 k47 h v3 v4 v5 = some res) : SP l X M_X5_look 47 [(0, .ref v0), (2, .int v2), (3, .ref v3), (4, .int v4), (5, .int v5)] [] h sz bc bs Q := by
  rw [c_X5_look_47] at hf
  refine sp_iload (pc := 47) dX5_look_47 4 rfl ?_
  refine sp_aload_n (pc := 49) dX5_look_49 2 rfl ?_
  refine sp_iload (pc := 50) dX5_look_50 3 rfl ?_
  obtain ⟨y1, ey1, hf⟩ := ob hf
  obtain ⟨fsy1, hoy1⟩ := o_X6_lastAt ey1
  refine sp_callVi (pc := 52) (z := M_X6_lastAt) (As := [.int v4]) (b := v3) (bc2 := bc) (bs2 := bs) (m_X6_lastAt (Q := _) (fun sz => ⟨y1, rfl, ?_⟩) ey1) rfl dX5_look_52 hoy1 rfl rfl ck_X5_look_46 (Nat.le_of_ble_eq_true rfl) rfl rfl rfl
  refine sp_icmp_gt (pc := 55) (tgt := 84) dX5_look_55 (by decide) (fun c2 => ?_) (fun c2 => ?_)
  · rw [if_pos c2] at hf
    refine sp_iinc (pc := 84) (v := v4 + 1) (lv' := [(4, .int (v4 + 1)), (0, .ref v0), (2, .int v2), (3, .ref v3), (5, .int v5)]) dX5_look_84 3 rfl rfl (by decide) rfl ?_
    refine sp_goto (pc := 87) (tgt := 16) dX5_look_87 (by decide) ?_
    exact sp_sub [1, 2, 3, 0] rfl (hk16 _ _ _ _ hf)
  · rw [if_neg c2] at hf
    refine sp_iload (pc := 58) dX5_look_58 4 rfl ?_
    refine sp_bipush (pc := 60) (v := 100) dX5_look_60 (by decide) ?_
    refine sp_icmp_ge (pc := 62) (tgt := 84) dX5_look_62 (by decide) (fun c3 => ?_) (fun c3 => ?_)
    · rw [if_pos c3] at hf
      refine sp_iinc (pc := 84) (v := v4 + 1) (lv' := [(4, .int (v4 + 1)), (0, .ref v0), (2, .int v2), (3, .ref v3), (5, .int v5)]) dX5_look_84 3 rfl rfl (by decide) rfl ?_
      refine sp_goto (pc := 87) (tgt := 16) dX5_look_87 (by decide) ?_
      exact sp_sub [1, 2, 3, 0] rfl (hk16 _ _ _ _ hf)
    · rw [if_neg c3] at hf
      refine sp_aload_n (pc := 65) dX5_look_65 0 rfl ?_
      obtain ⟨x4, ex4, hf⟩ := ob hf
      refine sp_gR (pc := 66) fl_RX5_9 dX5_look_66 ex4 ?_
      refine sp_iload (pc := 69) dX5_look_69 4 rfl ?_
      refine sp_aload_n (pc := 71) dX5_look_71 2 rfl ?_
      refine sp_iload (pc := 72) dX5_look_72 3 rfl ?_
      obtain ⟨y5, ey5, hf⟩ := ob hf
      obtain ⟨fsy5, hoy5⟩ := o_X6_valueAt ey5
      refine sp_callVi (pc := 74) (z := M_X6_valueAt) (As := [.int v4]) (b := v3) (bc2 := bc) (bs2 := bs) (m_X6_valueAt (Q := _) (fun sz => ⟨y5, rfl, ?_⟩) ey5) rfl dX5_look_74 hoy5 rfl rfl ck_X5_look_49 (Nat.le_of_ble_eq_true rfl) rfl rfl rfl
      obtain ⟨h6, eh6, hf⟩ := ob hf
      refine sp_wI (pc := 77) dX5_look_77 eh6 (fun sz => ?_)
      refine sp_iinc (pc := 78) (v := v5 + 1) (lv' := [(5, .int (v5 + 1)), (0, .ref v0), (2, .int v2), (3, .ref v3), (4, .int v4)]) dX5_look_78 4 rfl rfl (by decide) rfl ?_
      refine sp_goto (pc := 81) (tgt := 47) dX5_look_81 (by decide) ?_
      exact sp_sub [1, 2, 3, 4, 0] rfl (hk47 _ _ _ _ _ hf)

theorem w_X5_look_47 {l : Launch} {X : SCR} {Q : PST} {bc bs : Nat} {res : HP} (hQ : ∀ sz', Q (.inl none) res sz') {v0 : Nat} {v2 : Int32} {k16 : HP → Nat → Int32 → Option (HP)} (hk16 : ∀ (h : HP) (v3 : Nat) (v4 : Int32) (sz : Nat), k16 h v3 v4 = some res → SP l X M_X5_look 16 [(0, .ref v0), (2, .int v2), (3, .ref v3), (4, .int v4)] [] h sz bc bs Q) : ∀ (n : Nat) {h : HP} {v3 : Nat} {v4 : Int32} {v5 : Int32} {sz : Nat}, b_X5_look_47 v0 v2 k16 n h v3 v4 v5 = some res → SP l X M_X5_look 47 [(0, .ref v0), (2, .int v2), (3, .ref v3), (4, .int v4), (5, .int v5)] [] h sz bc bs Q := by
  intro n
  induction n with
  | zero =>
    intro h v3 v4 v5 sz hf
    rw [b_X5_look_47] at hf
    cases hf
  | succ n ih =>
    intro h v3 v4 v5 sz hf
    rw [b_X5_look_47] at hf
    exact wc_X5_look_47 hQ hk16 (fun h v3 v4 v5 sz hf => ih hf) hf

theorem wc_X5_look_16 {l : Launch} {X : SCR} {Q : PST} {bc bs : Nat} {res : HP} (hQ : ∀ sz', Q (.inl none) res sz') {v0 : Nat} {v2 : Int32} {k16 : HP → Nat → Int32 → Option (HP)} (hk16 : ∀ (h : HP) (v3 : Nat) (v4 : Int32) (sz : Nat), k16 h v3 v4 = some res → SP l X M_X5_look 16 [(0, .ref v0), (2, .int v2), (3, .ref v3), (4, .int v4)] [] h sz bc bs Q) {h : HP} {v3 : Nat} {v4 : Int32} {sz : Nat} (hf : c_X5_look_16 v0 v2 k16 h v3 v4 = some res) : SP l X M_X5_look 16 [(0, .ref v0), (2, .int v2), (3, .ref v3), (4, .int v4)] [] h sz bc bs Q := by
  rw [c_X5_look_16] at hf
  refine sp_iload (pc := 16) dX5_look_16 3 rfl ?_
  refine sp_aload_n (pc := 18) dX5_look_18 2 rfl ?_
  obtain ⟨y1, ey1, hf⟩ := ob hf
  obtain ⟨fsy1, hoy1⟩ := o_X6_size ey1
  refine sp_callVi (pc := 19) (z := M_X6_size) (As := []) (b := v3) (bc2 := bc) (bs2 := bs) (m_X6_size (Q := _) (fun sz => ⟨y1, rfl, ?_⟩) ey1) rfl dX5_look_19 hoy1 rfl rfl ck_X5_look_27 (Nat.le_of_ble_eq_true rfl) rfl rfl rfl
  refine sp_icmp_ge (pc := 22) (tgt := 90) dX5_look_22 (by decide) (fun c2 => ?_) (fun c2 => ?_)
  · rw [if_pos c2] at hf
    obtain rfl := Option.some.inj hf
    exact sp_return (pc := 90) dX5_look_90 rfl (hQ _)
  · rw [if_neg c2] at hf
    refine sp_aload_n (pc := 25) dX5_look_25 2 rfl ?_
    refine sp_iload (pc := 26) dX5_look_26 3 rfl ?_
    obtain ⟨y3, ey3, hf⟩ := ob hf
    obtain ⟨fsy3, hoy3⟩ := o_X6_numberAt ey3
    refine sp_callVi (pc := 28) (z := M_X6_numberAt) (As := [.int v4]) (b := v3) (bc2 := bc) (bs2 := bs) (m_X6_numberAt (Q := _) (fun sz => ⟨y3, rfl, ?_⟩) ey3) rfl dX5_look_28 hoy3 rfl rfl ck_X5_look_33 (Nat.le_of_ble_eq_true rfl) rfl rfl rfl
    refine sp_iload_n (pc := 31) dX5_look_31 1 rfl ?_
    refine sp_icmp_gt (pc := 32) (tgt := 90) dX5_look_32 (by decide) (fun c4 => ?_) (fun c4 => ?_)
    · rw [if_pos c4] at hf
      obtain rfl := Option.some.inj hf
      exact sp_return (pc := 90) dX5_look_90 rfl (hQ _)
    · rw [if_neg c4] at hf
      refine sp_aload_n (pc := 35) dX5_look_35 2 rfl ?_
      refine sp_iload (pc := 36) dX5_look_36 3 rfl ?_
      obtain ⟨y5, ey5, hf⟩ := ob hf
      obtain ⟨fsy5, hoy5⟩ := o_X6_firstAt ey5
      refine sp_callVi (pc := 38) (z := M_X6_firstAt) (As := [.int v4]) (b := v3) (bc2 := bc) (bs2 := bs) (m_X6_firstAt (Q := _) (fun sz => ⟨y5, rfl, ?_⟩) ey5) rfl dX5_look_38 hoy5 rfl rfl ck_X5_look_37 (Nat.le_of_ble_eq_true rfl) rfl rfl rfl
      refine sp_iconst (pc := 41) (v := 0) dX5_look_41 (by decide) ?_
      refine sp_mmaxJ (pc := 42) bk_687 bk_103 bk_66 bk_104 dX5_look_42 (by decide) (Nat.le_of_ble_eq_true rfl) ?_
      refine sp_istore (pc := 45) (lv' := [(5, .int (jmax y5 0)), (0, .ref v0), (2, .int v2), (3, .ref v3), (4, .int v4)]) dX5_look_45 (by decide) rfl ?_
      exact sp_sub [1, 2, 3, 4, 0] rfl (w_X5_look_47 hQ hk16 FU hf)

theorem w_X5_look_16 {l : Launch} {X : SCR} {Q : PST} {bc bs : Nat} {res : HP} (hQ : ∀ sz', Q (.inl none) res sz') {v0 : Nat} {v2 : Int32} : ∀ (n : Nat) {h : HP} {v3 : Nat} {v4 : Int32} {sz : Nat}, b_X5_look_16 v0 v2 n h v3 v4 = some res → SP l X M_X5_look 16 [(0, .ref v0), (2, .int v2), (3, .ref v3), (4, .int v4)] [] h sz bc bs Q := by
  intro n
  induction n with
  | zero =>
    intro h v3 v4 sz hf
    rw [b_X5_look_16] at hf
    cases hf
  | succ n ih =>
    intro h v3 v4 sz hf
    rw [b_X5_look_16] at hf
    exact wc_X5_look_16 hQ (fun h v3 v4 sz hf => ih hf) hf

theorem w_X5_look_0 {l : Launch} {X : SCR} {Q : PST} {bc bs : Nat} {res : HP} {h : HP} (hQ : ∀ sz', Q (.inl none) res sz') {v0 : Nat} {v1 : Nat} {v2 : Int32} {sz : Nat} (hf : b_X5_look_0 v0 v1 v2 h  = some res) : SP l X M_X5_look 0 [(0, .ref v0), (1, .ref v1), (2, .int v2)] [] h sz bc bs Q := by
  rw [b_X5_look_0] at hf
  refine sp_aload_n (pc := 0) dX5_look_0 0 rfl ?_
  obtain ⟨x1, ex1, hf⟩ := ob hf
  refine sp_gR (pc := 1) fl_RX5_9 dX5_look_1 ex1 ?_
  refine sp_iconst (pc := 4) (v := 0) dX5_look_4 (by decide) ?_
  obtain ⟨y2, ey2, hf⟩ := ob hf
  refine sp_callSv (pc := 5) (z := M_J7_fill_53178) (As := [.ref x1, .int 0]) (bc2 := bc) (bs2 := bs) (m_J7_fill_53178 (Q := _) (fun sz => ⟨(), rfl, ?_⟩) ey2) rfl dX5_look_5 rfl ck_X5_look_15 (Nat.le_of_ble_eq_true rfl) rfl rfl rfl
  refine sp_aload_n (pc := 8) dX5_look_8 1 rfl ?_
  obtain ⟨x3, ex3, hf⟩ := ob hf
  refine sp_gR (pc := 9) fl_RX5_21 dX5_look_9 ex3 ?_
  refine sp_astore_n (pc := 12) (lv' := [(3, .ref x3), (0, .ref v0), (1, .ref v1), (2, .int v2)]) dX5_look_12 (by decide) rfl ?_
  refine sp_iconst (pc := 13) (v := 0) dX5_look_13 (by decide) ?_
  refine sp_istore (pc := 14) (lv' := [(4, .int 0), (3, .ref x3), (0, .ref v0), (1, .ref v1), (2, .int v2)]) dX5_look_14 (by decide) rfl ?_
  exact sp_sub [2, 4, 1, 0] rfl (w_X5_look_16 hQ FU hf)

theorem o_X5_look {h : HP} {v0 : Nat} {v1 : Nat} {v2 : Int32} {res : HP} (hf : f_X5_look h v0 v1 v2 = some res) : ∃ fs, h v0 = some (.inr (5, fs)) := by
  obtain ⟨u, eu, -⟩ := ob hf
  exact kO_spec eu

theorem m_X5_look {l : Launch} {Q : PST} {h : HP} {v0 : Nat} {v1 : Nat} {v2 : Int32} {sz : Nat} {res : HP} (hQ : ∀ sz', Q (.inl none) res sz') (hf : f_X5_look h v0 v1 v2 = some res) : MM l M_X5_look [.ref v0, .ref v1, .int v2] h sz Q := by
  obtain ⟨u, eu, hf⟩ := ob hf
  exact MM_of wok_X5_look (by decide +kernel) (Nat.le_of_ble_eq_true rfl) ((w_X5_look_0 hQ hf))

theorem dX5_sum_0 : decode (mB M_X5_sum) 0 = .ok (.iconst 0, 1) := by decide +kernel
theorem dX5_sum_1 : decode (mB M_X5_sum) 1 = .ok (.istore_n 1, 1) := by decide +kernel
theorem dX5_sum_2 : decode (mB M_X5_sum) 2 = .ok (.iconst 0, 1) := by decide +kernel
theorem dX5_sum_3 : decode (mB M_X5_sum) 3 = .ok (.istore_n 2, 1) := by decide +kernel
theorem dX5_sum_4 : decode (mB M_X5_sum) 4 = .ok (.iload_n 2, 1) := by decide +kernel
theorem dX5_sum_5 : decode (mB M_X5_sum) 5 = .ok (.bipush 100, 2) := by decide +kernel
theorem dX5_sum_7 : decode (mB M_X5_sum) 7 = .ok (.if_icmp .ge 18, 3) := by decide +kernel
theorem dX5_sum_10 : decode (mB M_X5_sum) 10 = .ok (.iload_n 1, 1) := by decide +kernel
theorem dX5_sum_11 : decode (mB M_X5_sum) 11 = .ok (.aload_n 0, 1) := by decide +kernel
theorem dX5_sum_12 : decode (mB M_X5_sum) 12 = .ok (.getfield 9, 3) := by decide +kernel
theorem dX5_sum_15 : decode (mB M_X5_sum) 15 = .ok (.iload_n 2, 1) := by decide +kernel
theorem dX5_sum_16 : decode (mB M_X5_sum) 16 = .ok (.iaload, 1) := by decide +kernel
theorem dX5_sum_17 : decode (mB M_X5_sum) 17 = .ok (.iadd, 1) := by decide +kernel
theorem dX5_sum_18 : decode (mB M_X5_sum) 18 = .ok (.istore_n 1, 1) := by decide +kernel
theorem dX5_sum_19 : decode (mB M_X5_sum) 19 = .ok (.iinc 2 1, 3) := by decide +kernel
theorem dX5_sum_22 : decode (mB M_X5_sum) 22 = .ok (.goto (-18), 3) := by decide +kernel
theorem dX5_sum_25 : decode (mB M_X5_sum) 25 = .ok (.iload_n 1, 1) := by decide +kernel
theorem dX5_sum_26 : decode (mB M_X5_sum) 26 = .ok (.ireturn, 1) := by decide +kernel
def c_X5_sum_4 (h : HP) (v0 : Nat) (k4 : Int32 → Int32 → Option (Int32)) (v1 : Int32) (v2 : Int32) : Option (Int32) :=
  if 100 ≤ v2 then some (v1) else (gR 5 0 h v0).bind fun x2 => (aI h x2 v2).bind fun x3 => k4 (v1 + x3) (v2 + 1)
def b_X5_sum_4 (h : HP) (v0 : Nat) : Nat → Int32 → Int32 → Option (Int32)
  | 0, _, _ => none
  | n + 1, v1, v2 => c_X5_sum_4 h v0 (b_X5_sum_4 h v0 n) v1 v2
def b_X5_sum_0 (h : HP) (v0 : Nat) : Option (Int32) :=
  b_X5_sum_4 h v0 FU 0 0
def f_X5_sum (h : HP) (v0 : Nat) : Option (Int32) := (kO 5 h v0).bind fun _ => b_X5_sum_0 h v0
theorem wc_X5_sum_4 {l : Launch} {X : SCR} {Q : PST} {bc bs : Nat} {res : Int32} {h : HP} (hQ : ∀ sz', Q (.inl (some (.int res))) h sz') {v0 : Nat} {k4 : Int32 → Int32 → Option (Int32)} (hk4 : ∀ (v1 : Int32) (v2 : Int32) (sz : Nat), k4 v1 v2 = some res → SP l X M_X5_sum 4 [(0, .ref v0), (1, .int v1), (2, .int v2)] [] h sz bc bs Q) {v1 : Int32} {v2 : Int32} {sz : Nat} (hf : c_X5_sum_4 h v0 k4 v1 v2 = some res) : SP l X M_X5_sum 4 [(0, .ref v0), (1, .int v1), (2, .int v2)] [] h sz bc bs Q := by
  rw [c_X5_sum_4] at hf
  refine sp_iload_n (pc := 4) dX5_sum_4 2 rfl ?_
  refine sp_bipush (pc := 5) (v := 100) dX5_sum_5 (by decide) ?_
  refine sp_icmp_ge (pc := 7) (tgt := 25) dX5_sum_7 (by decide) (fun c1 => ?_) (fun c1 => ?_)
  · rw [if_pos c1] at hf
    refine sp_iload_n (pc := 25) dX5_sum_25 1 rfl ?_
    obtain rfl := Option.some.inj hf
    exact sp_ireturn (pc := 26) dX5_sum_26 rfl rfl (hQ _)
  · rw [if_neg c1] at hf
    refine sp_iload_n (pc := 10) dX5_sum_10 1 rfl ?_
    refine sp_aload_n (pc := 11) dX5_sum_11 0 rfl ?_
    obtain ⟨x2, ex2, hf⟩ := ob hf
    refine sp_gR (pc := 12) fl_RX5_9 dX5_sum_12 ex2 ?_
    refine sp_iload_n (pc := 15) dX5_sum_15 2 rfl ?_
    obtain ⟨x3, ex3, hf⟩ := ob hf
    refine sp_aI (pc := 16) dX5_sum_16 ex3 ?_
    refine sp_iadd (pc := 17) dX5_sum_17 ?_
    refine sp_istore_n (pc := 18) (lv' := [(1, .int (v1 + x3)), (0, .ref v0), (2, .int v2)]) dX5_sum_18 (by decide) rfl ?_
    refine sp_iinc (pc := 19) (v := v2 + 1) (lv' := [(2, .int (v2 + 1)), (1, .int (v1 + x3)), (0, .ref v0)]) dX5_sum_19 2 rfl rfl (by decide) rfl ?_
    refine sp_goto (pc := 22) (tgt := 4) dX5_sum_22 (by decide) ?_
    exact sp_sub [2, 1, 0] rfl (hk4 _ _ _ hf)

theorem w_X5_sum_4 {l : Launch} {X : SCR} {Q : PST} {bc bs : Nat} {res : Int32} {h : HP} (hQ : ∀ sz', Q (.inl (some (.int res))) h sz') {v0 : Nat} : ∀ (n : Nat) {v1 : Int32} {v2 : Int32} {sz : Nat}, b_X5_sum_4 h v0 n v1 v2 = some res → SP l X M_X5_sum 4 [(0, .ref v0), (1, .int v1), (2, .int v2)] [] h sz bc bs Q := by
  intro n
  induction n with
  | zero =>
    intro v1 v2 sz hf
    rw [b_X5_sum_4] at hf
    cases hf
  | succ n ih =>
    intro v1 v2 sz hf
    rw [b_X5_sum_4] at hf
    exact wc_X5_sum_4 hQ (fun v1 v2 sz hf => ih hf) hf

theorem w_X5_sum_0 {l : Launch} {X : SCR} {Q : PST} {bc bs : Nat} {res : Int32} {h : HP} (hQ : ∀ sz', Q (.inl (some (.int res))) h sz') {v0 : Nat} {sz : Nat} (hf : b_X5_sum_0 h v0  = some res) : SP l X M_X5_sum 0 [(0, .ref v0)] [] h sz bc bs Q := by
  rw [b_X5_sum_0] at hf
  refine sp_iconst (pc := 0) (v := 0) dX5_sum_0 (by decide) ?_
  refine sp_istore_n (pc := 1) (lv' := [(1, .int 0), (0, .ref v0)]) dX5_sum_1 (by decide) rfl ?_
  refine sp_iconst (pc := 2) (v := 0) dX5_sum_2 (by decide) ?_
  refine sp_istore_n (pc := 3) (lv' := [(2, .int 0), (1, .int 0), (0, .ref v0)]) dX5_sum_3 (by decide) rfl ?_
  exact sp_sub [2, 1, 0] rfl (w_X5_sum_4 hQ FU hf)

theorem o_X5_sum {h : HP} {v0 : Nat} {res : Int32} (hf : f_X5_sum h v0 = some res) : ∃ fs, h v0 = some (.inr (5, fs)) := by
  obtain ⟨u, eu, -⟩ := ob hf
  exact kO_spec eu

theorem m_X5_sum {l : Launch} {Q : PST} {h : HP} {v0 : Nat} {sz : Nat} {res : Int32} (hQ : ∀ sz', Q (.inl (some (.int res))) h sz') (hf : f_X5_sum h v0 = some res) : MM l M_X5_sum [.ref v0] h sz Q := by
  obtain ⟨u, eu, hf⟩ := ob hf
  exact MM_of wok_X5_sum (by decide +kernel) (Nat.le_of_ble_eq_true rfl) ((w_X5_sum_0 hQ hf))

theorem dX5_seenIn_0 : decode (mB M_X5_seenIn) 0 = .ok (.iconst 0, 1) := by decide +kernel
theorem dX5_seenIn_1 : decode (mB M_X5_seenIn) 1 = .ok (.istore_n 3, 1) := by decide +kernel
theorem dX5_seenIn_2 : decode (mB M_X5_seenIn) 2 = .ok (.iload_n 1, 1) := by decide +kernel
theorem dX5_seenIn_3 : decode (mB M_X5_seenIn) 3 = .ok (.iconst 0, 1) := by decide +kernel
theorem dX5_seenIn_4 : decode (mB M_X5_seenIn) 4 = .ok (.invokestatic 40, 3) := by decide +kernel
theorem dX5_seenIn_7 : decode (mB M_X5_seenIn) 7 = .ok (.istore 4, 2) := by decide +kernel
theorem dX5_seenIn_9 : decode (mB M_X5_seenIn) 9 = .ok (.iload 4, 2) := by decide +kernel
theorem dX5_seenIn_11 : decode (mB M_X5_seenIn) 11 = .ok (.iload_n 2, 1) := by decide +kernel
theorem dX5_seenIn_12 : decode (mB M_X5_seenIn) 12 = .ok (.if_icmp .gt 29, 3) := by decide +kernel
theorem dX5_seenIn_15 : decode (mB M_X5_seenIn) 15 = .ok (.iload 4, 2) := by decide +kernel
theorem dX5_seenIn_17 : decode (mB M_X5_seenIn) 17 = .ok (.bipush 100, 2) := by decide +kernel
theorem dX5_seenIn_19 : decode (mB M_X5_seenIn) 19 = .ok (.if_icmp .ge 22, 3) := by decide +kernel
theorem dX5_seenIn_22 : decode (mB M_X5_seenIn) 22 = .ok (.aload_n 0, 1) := by decide +kernel
theorem dX5_seenIn_23 : decode (mB M_X5_seenIn) 23 = .ok (.getfield 9, 3) := by decide +kernel
theorem dX5_seenIn_26 : decode (mB M_X5_seenIn) 26 = .ok (.iload 4, 2) := by decide +kernel
theorem dX5_seenIn_28 : decode (mB M_X5_seenIn) 28 = .ok (.iaload, 1) := by decide +kernel
theorem dX5_seenIn_29 : decode (mB M_X5_seenIn) 29 = .ok (.ifCond .eq 6, 3) := by decide +kernel
theorem dX5_seenIn_32 : decode (mB M_X5_seenIn) 32 = .ok (.iinc 3 1, 3) := by decide +kernel
theorem dX5_seenIn_35 : decode (mB M_X5_seenIn) 35 = .ok (.iinc 4 1, 3) := by decide +kernel
theorem dX5_seenIn_38 : decode (mB M_X5_seenIn) 38 = .ok (.goto (-29), 3) := by decide +kernel
theorem dX5_seenIn_41 : decode (mB M_X5_seenIn) 41 = .ok (.iload_n 3, 1) := by decide +kernel
theorem dX5_seenIn_42 : decode (mB M_X5_seenIn) 42 = .ok (.ireturn, 1) := by decide +kernel
def c_X5_seenIn_9 (h : HP) (v0 : Nat) (v2 : Int32) (k9 : Int32 → Int32 → Option (Int32)) (v3 : Int32) (v4 : Int32) : Option (Int32) :=
  if v2 < v4 then some (v3) else if 100 ≤ v4 then some (v3) else (gR 5 0 h v0).bind fun x3 => (aI h x3 v4).bind fun x4 => if x4 = 0 then k9 v3 (v4 + 1) else k9 (v3 + 1) (v4 + 1)
def b_X5_seenIn_9 (h : HP) (v0 : Nat) (v2 : Int32) : Nat → Int32 → Int32 → Option (Int32)
  | 0, _, _ => none
  | n + 1, v3, v4 => c_X5_seenIn_9 h v0 v2 (b_X5_seenIn_9 h v0 v2 n) v3 v4
def b_X5_seenIn_0 (h : HP) (v0 : Nat) (v1 : Int32) (v2 : Int32) : Option (Int32) :=
  b_X5_seenIn_9 h v0 v2 FU 0 (jmax v1 0)
def f_X5_seenIn (h : HP) (v0 : Nat) (v1 : Int32) (v2 : Int32) : Option (Int32) := (kO 5 h v0).bind fun _ => b_X5_seenIn_0 h v0 v1 v2
theorem wc_X5_seenIn_9 {l : Launch} {X : SCR} {Q : PST} {bc bs : Nat} {res : Int32} {h : HP} (hQ : ∀ sz', Q (.inl (some (.int res))) h sz') {v0 : Nat} {v2 : Int32} {k9 : Int32 → Int32 → Option (Int32)} (hk9 : ∀ (v3 : Int32) (v4 : Int32) (sz : Nat), k9 v3 v4 = some res → SP l X M_X5_seenIn 9 [(0, .ref v0), (2, .int v2), (3, .int v3), (4, .int v4)] [] h sz bc bs Q) {v3 : Int32} {v4 : Int32} {sz : Nat} (hf : c_X5_seenIn_9 h v0 v2 k9 v3 v4 = some res) : SP l X M_X5_seenIn 9 [(0, .ref v0), (2, .int v2), (3, .int v3), (4, .int v4)] [] h sz bc bs Q := by
  rw [c_X5_seenIn_9] at hf
  refine sp_iload (pc := 9) dX5_seenIn_9 3 rfl ?_
  refine sp_iload_n (pc := 11) dX5_seenIn_11 1 rfl ?_
  refine sp_icmp_gt (pc := 12) (tgt := 41) dX5_seenIn_12 (by decide) (fun c1 => ?_) (fun c1 => ?_)
  · rw [if_pos c1] at hf
    refine sp_iload_n (pc := 41) dX5_seenIn_41 2 rfl ?_
    obtain rfl := Option.some.inj hf
    exact sp_ireturn (pc := 42) dX5_seenIn_42 rfl rfl (hQ _)
  · rw [if_neg c1] at hf
    refine sp_iload (pc := 15) dX5_seenIn_15 3 rfl ?_
    refine sp_bipush (pc := 17) (v := 100) dX5_seenIn_17 (by decide) ?_
    refine sp_icmp_ge (pc := 19) (tgt := 41) dX5_seenIn_19 (by decide) (fun c2 => ?_) (fun c2 => ?_)
    · rw [if_pos c2] at hf
      refine sp_iload_n (pc := 41) dX5_seenIn_41 2 rfl ?_
      obtain rfl := Option.some.inj hf
      exact sp_ireturn (pc := 42) dX5_seenIn_42 rfl rfl (hQ _)
    · rw [if_neg c2] at hf
      refine sp_aload_n (pc := 22) dX5_seenIn_22 0 rfl ?_
      obtain ⟨x3, ex3, hf⟩ := ob hf
      refine sp_gR (pc := 23) fl_RX5_9 dX5_seenIn_23 ex3 ?_
      refine sp_iload (pc := 26) dX5_seenIn_26 3 rfl ?_
      obtain ⟨x4, ex4, hf⟩ := ob hf
      refine sp_aI (pc := 28) dX5_seenIn_28 ex4 ?_
      refine sp_if_eq (pc := 29) (tgt := 35) dX5_seenIn_29 (by decide) (fun c5 => ?_) (fun c5 => ?_)
      · rw [if_pos c5] at hf
        refine sp_iinc (pc := 35) (v := v4 + 1) (lv' := [(4, .int (v4 + 1)), (0, .ref v0), (2, .int v2), (3, .int v3)]) dX5_seenIn_35 3 rfl rfl (by decide) rfl ?_
        refine sp_goto (pc := 38) (tgt := 9) dX5_seenIn_38 (by decide) ?_
        exact sp_sub [1, 2, 3, 0] rfl (hk9 _ _ _ hf)
      · rw [if_neg c5] at hf
        refine sp_iinc (pc := 32) (v := v3 + 1) (lv' := [(3, .int (v3 + 1)), (0, .ref v0), (2, .int v2), (4, .int v4)]) dX5_seenIn_32 2 rfl rfl (by decide) rfl ?_
        refine sp_iinc (pc := 35) (v := v4 + 1) (lv' := [(4, .int (v4 + 1)), (3, .int (v3 + 1)), (0, .ref v0), (2, .int v2)]) dX5_seenIn_35 3 rfl rfl (by decide) rfl ?_
        refine sp_goto (pc := 38) (tgt := 9) dX5_seenIn_38 (by decide) ?_
        exact sp_sub [2, 3, 1, 0] rfl (hk9 _ _ _ hf)

theorem w_X5_seenIn_9 {l : Launch} {X : SCR} {Q : PST} {bc bs : Nat} {res : Int32} {h : HP} (hQ : ∀ sz', Q (.inl (some (.int res))) h sz') {v0 : Nat} {v2 : Int32} : ∀ (n : Nat) {v3 : Int32} {v4 : Int32} {sz : Nat}, b_X5_seenIn_9 h v0 v2 n v3 v4 = some res → SP l X M_X5_seenIn 9 [(0, .ref v0), (2, .int v2), (3, .int v3), (4, .int v4)] [] h sz bc bs Q := by
  intro n
  induction n with
  | zero =>
    intro v3 v4 sz hf
    rw [b_X5_seenIn_9] at hf
    cases hf
  | succ n ih =>
    intro v3 v4 sz hf
    rw [b_X5_seenIn_9] at hf
    exact wc_X5_seenIn_9 hQ (fun v3 v4 sz hf => ih hf) hf

theorem w_X5_seenIn_0 {l : Launch} {X : SCR} {Q : PST} {bc bs : Nat} {res : Int32} {h : HP} (hQ : ∀ sz', Q (.inl (some (.int res))) h sz') {v0 : Nat} {v1 : Int32} {v2 : Int32} {sz : Nat} (hf : b_X5_seenIn_0 h v0 v1 v2  = some res) : SP l X M_X5_seenIn 0 [(0, .ref v0), (1, .int v1), (2, .int v2)] [] h sz bc bs Q := by
  rw [b_X5_seenIn_0] at hf
  refine sp_iconst (pc := 0) (v := 0) dX5_seenIn_0 (by decide) ?_
  refine sp_istore_n (pc := 1) (lv' := [(3, .int 0), (0, .ref v0), (1, .int v1), (2, .int v2)]) dX5_seenIn_1 (by decide) rfl ?_
  refine sp_iload_n (pc := 2) dX5_seenIn_2 2 rfl ?_
  refine sp_iconst (pc := 3) (v := 0) dX5_seenIn_3 (by decide) ?_
  refine sp_mmaxJ (pc := 4) bk_687 bk_103 bk_66 bk_104 dX5_seenIn_4 (by decide) (Nat.le_of_ble_eq_true rfl) ?_
  refine sp_istore (pc := 7) (lv' := [(4, .int (jmax v1 0)), (3, .int 0), (0, .ref v0), (1, .int v1), (2, .int v2)]) dX5_seenIn_7 (by decide) rfl ?_
  exact sp_sub [2, 4, 1, 0] rfl (w_X5_seenIn_9 hQ FU hf)

theorem o_X5_seenIn {h : HP} {v0 : Nat} {v1 : Int32} {v2 : Int32} {res : Int32} (hf : f_X5_seenIn h v0 v1 v2 = some res) : ∃ fs, h v0 = some (.inr (5, fs)) := by
  obtain ⟨u, eu, -⟩ := ob hf
  exact kO_spec eu

theorem m_X5_seenIn {l : Launch} {Q : PST} {h : HP} {v0 : Nat} {v1 : Int32} {v2 : Int32} {sz : Nat} {res : Int32} (hQ : ∀ sz', Q (.inl (some (.int res))) h sz') (hf : f_X5_seenIn h v0 v1 v2 = some res) : MM l M_X5_seenIn [.ref v0, .int v1, .int v2] h sz Q := by
  obtain ⟨u, eu, hf⟩ := ob hf
  exact MM_of wok_X5_seenIn (by decide +kernel) (Nat.le_of_ble_eq_true rfl) ((w_X5_seenIn_0 hQ hf))

theorem dX5_firstSeen_0 : decode (mB M_X5_firstSeen) 0 = .ok (.iload_n 1, 1) := by decide +kernel
theorem dX5_firstSeen_1 : decode (mB M_X5_firstSeen) 1 = .ok (.iconst 0, 1) := by decide +kernel
theorem dX5_firstSeen_2 : decode (mB M_X5_firstSeen) 2 = .ok (.invokestatic 40, 3) := by decide +kernel
theorem dX5_firstSeen_5 : decode (mB M_X5_firstSeen) 5 = .ok (.istore_n 2, 1) := by decide +kernel
theorem dX5_firstSeen_6 : decode (mB M_X5_firstSeen) 6 = .ok (.iload_n 2, 1) := by decide +kernel
theorem dX5_firstSeen_7 : decode (mB M_X5_firstSeen) 7 = .ok (.bipush 100, 2) := by decide +kernel
theorem dX5_firstSeen_9 : decode (mB M_X5_firstSeen) 9 = .ok (.if_icmp .ge 20, 3) := by decide +kernel
theorem dX5_firstSeen_12 : decode (mB M_X5_firstSeen) 12 = .ok (.aload_n 0, 1) := by decide +kernel
theorem dX5_firstSeen_13 : decode (mB M_X5_firstSeen) 13 = .ok (.getfield 9, 3) := by decide +kernel
theorem dX5_firstSeen_16 : decode (mB M_X5_firstSeen) 16 = .ok (.iload_n 2, 1) := by decide +kernel
theorem dX5_firstSeen_17 : decode (mB M_X5_firstSeen) 17 = .ok (.iaload, 1) := by decide +kernel
theorem dX5_firstSeen_18 : decode (mB M_X5_firstSeen) 18 = .ok (.ifCond .eq 5, 3) := by decide +kernel
theorem dX5_firstSeen_21 : decode (mB M_X5_firstSeen) 21 = .ok (.iload_n 2, 1) := by decide +kernel
theorem dX5_firstSeen_22 : decode (mB M_X5_firstSeen) 22 = .ok (.ireturn, 1) := by decide +kernel
theorem dX5_firstSeen_23 : decode (mB M_X5_firstSeen) 23 = .ok (.iinc 2 1, 3) := by decide +kernel
theorem dX5_firstSeen_26 : decode (mB M_X5_firstSeen) 26 = .ok (.goto (-20), 3) := by decide +kernel
theorem dX5_firstSeen_29 : decode (mB M_X5_firstSeen) 29 = .ok (.iconst (-1), 1) := by decide +kernel
theorem dX5_firstSeen_30 : decode (mB M_X5_firstSeen) 30 = .ok (.ireturn, 1) := by decide +kernel
def c_X5_firstSeen_6 (h : HP) (v0 : Nat) (k6 : Int32 → Option (Int32)) (v2 : Int32) : Option (Int32) :=
  if 100 ≤ v2 then some ((-1)) else (gR 5 0 h v0).bind fun x2 => (aI h x2 v2).bind fun x3 => if x3 = 0 then k6 (v2 + 1) else some (v2)
def b_X5_firstSeen_6 (h : HP) (v0 : Nat) : Nat → Int32 → Option (Int32)
  | 0, _ => none
  | n + 1, v2 => c_X5_firstSeen_6 h v0 (b_X5_firstSeen_6 h v0 n) v2
def b_X5_firstSeen_0 (h : HP) (v0 : Nat) (v1 : Int32) : Option (Int32) :=
  b_X5_firstSeen_6 h v0 FU (jmax v1 0)
def f_X5_firstSeen (h : HP) (v0 : Nat) (v1 : Int32) : Option (Int32) := (kO 5 h v0).bind fun _ => b_X5_firstSeen_0 h v0 v1
theorem wc_X5_firstSeen_6 {l : Launch} {X : SCR} {Q : PST} {bc bs : Nat} {res : Int32} {h : HP} (hQ : ∀ sz', Q (.inl (some (.int res))) h sz') {v0 : Nat} {k6 : Int32 → Option (Int32)} (hk6 : ∀ (v2 : Int32) (sz : Nat), k6 v2 = some res → SP l X M_X5_firstSeen 6 [(0, .ref v0), (2, .int v2)] [] h sz bc bs Q) {v2 : Int32} {sz : Nat} (hf : c_X5_firstSeen_6 h v0 k6 v2 = some res) : SP l X M_X5_firstSeen 6 [(0, .ref v0), (2, .int v2)] [] h sz bc bs Q := by
  rw [c_X5_firstSeen_6] at hf
  refine sp_iload_n (pc := 6) dX5_firstSeen_6 1 rfl ?_
  refine sp_bipush (pc := 7) (v := 100) dX5_firstSeen_7 (by decide) ?_
  refine sp_icmp_ge (pc := 9) (tgt := 29) dX5_firstSeen_9 (by decide) (fun c1 => ?_) (fun c1 => ?_)
  · rw [if_pos c1] at hf
    refine sp_iconst (pc := 29) (v := (-1)) dX5_firstSeen_29 (by decide) ?_
    obtain rfl := Option.some.inj hf
    exact sp_ireturn (pc := 30) dX5_firstSeen_30 rfl rfl (hQ _)
  · rw [if_neg c1] at hf
    refine sp_aload_n (pc := 12) dX5_firstSeen_12 0 rfl ?_
    obtain ⟨x2, ex2, hf⟩ := ob hf
    refine sp_gR (pc := 13) fl_RX5_9 dX5_firstSeen_13 ex2 ?_
    refine sp_iload_n (pc := 16) dX5_firstSeen_16 1 rfl ?_
    obtain ⟨x3, ex3, hf⟩ := ob hf
    refine sp_aI (pc := 17) dX5_firstSeen_17 ex3 ?_
    refine sp_if_eq (pc := 18) (tgt := 23) dX5_firstSeen_18 (by decide) (fun c4 => ?_) (fun c4 => ?_)
    · rw [if_pos c4] at hf
      refine sp_iinc (pc := 23) (v := v2 + 1) (lv' := [(2, .int (v2 + 1)), (0, .ref v0)]) dX5_firstSeen_23 1 rfl rfl (by decide) rfl ?_
      refine sp_goto (pc := 26) (tgt := 6) dX5_firstSeen_26 (by decide) ?_
      exact sp_sub [1, 0] rfl (hk6 _ _ hf)
    · rw [if_neg c4] at hf
      refine sp_iload_n (pc := 21) dX5_firstSeen_21 1 rfl ?_
      obtain rfl := Option.some.inj hf
      exact sp_ireturn (pc := 22) dX5_firstSeen_22 rfl rfl (hQ _)

theorem w_X5_firstSeen_6 {l : Launch} {X : SCR} {Q : PST} {bc bs : Nat} {res : Int32} {h : HP} (hQ : ∀ sz', Q (.inl (some (.int res))) h sz') {v0 : Nat} : ∀ (n : Nat) {v2 : Int32} {sz : Nat}, b_X5_firstSeen_6 h v0 n v2 = some res → SP l X M_X5_firstSeen 6 [(0, .ref v0), (2, .int v2)] [] h sz bc bs Q := by
  intro n
  induction n with
  | zero =>
    intro v2 sz hf
    rw [b_X5_firstSeen_6] at hf
    cases hf
  | succ n ih =>
    intro v2 sz hf
    rw [b_X5_firstSeen_6] at hf
    exact wc_X5_firstSeen_6 hQ (fun v2 sz hf => ih hf) hf

theorem w_X5_firstSeen_0 {l : Launch} {X : SCR} {Q : PST} {bc bs : Nat} {res : Int32} {h : HP} (hQ : ∀ sz', Q (.inl (some (.int res))) h sz') {v0 : Nat} {v1 : Int32} {sz : Nat} (hf : b_X5_firstSeen_0 h v0 v1  = some res) : SP l X M_X5_firstSeen 0 [(0, .ref v0), (1, .int v1)] [] h sz bc bs Q := by
  rw [b_X5_firstSeen_0] at hf
  refine sp_iload_n (pc := 0) dX5_firstSeen_0 1 rfl ?_
  refine sp_iconst (pc := 1) (v := 0) dX5_firstSeen_1 (by decide) ?_
  refine sp_mmaxJ (pc := 2) bk_687 bk_103 bk_66 bk_104 dX5_firstSeen_2 (by decide) (Nat.le_of_ble_eq_true rfl) ?_
  refine sp_istore_n (pc := 5) (lv' := [(2, .int (jmax v1 0)), (0, .ref v0), (1, .int v1)]) dX5_firstSeen_5 (by decide) rfl ?_
  exact sp_sub [1, 0] rfl (w_X5_firstSeen_6 hQ FU hf)

theorem o_X5_firstSeen {h : HP} {v0 : Nat} {v1 : Int32} {res : Int32} (hf : f_X5_firstSeen h v0 v1 = some res) : ∃ fs, h v0 = some (.inr (5, fs)) := by
  obtain ⟨u, eu, -⟩ := ob hf
  exact kO_spec eu

theorem m_X5_firstSeen {l : Launch} {Q : PST} {h : HP} {v0 : Nat} {v1 : Int32} {sz : Nat} {res : Int32} (hQ : ∀ sz', Q (.inl (some (.int res))) h sz') (hf : f_X5_firstSeen h v0 v1 = some res) : MM l M_X5_firstSeen [.ref v0, .int v1] h sz Q := by
  obtain ⟨u, eu, hf⟩ := ob hf
  exact MM_of wok_X5_firstSeen (by decide +kernel) (Nat.le_of_ble_eq_true rfl) ((w_X5_firstSeen_0 hQ hf))

theorem dX7_init_0 : decode (mB M_X7_init) 0 = .ok (.aload_n 0, 1) := by decide +kernel
theorem dX7_init_1 : decode (mB M_X7_init) 1 = .ok (.invokespecial 3, 3) := by decide +kernel
theorem dX7_init_4 : decode (mB M_X7_init) 4 = .ok (.new 9, 3) := by decide +kernel
theorem dX7_init_7 : decode (mB M_X7_init) 7 = .ok (.dup, 1) := by decide +kernel
theorem dX7_init_8 : decode (mB M_X7_init) 8 = .ok (.invokespecial 11, 3) := by decide +kernel
theorem dX7_init_11 : decode (mB M_X7_init) 11 = .ok (.astore_n 1, 1) := by decide +kernel
theorem dX7_init_12 : decode (mB M_X7_init) 12 = .ok (.aload_n 0, 1) := by decide +kernel
theorem dX7_init_13 : decode (mB M_X7_init) 13 = .ok (.new 12, 3) := by decide +kernel
theorem dX7_init_16 : decode (mB M_X7_init) 16 = .ok (.dup, 1) := by decide +kernel
theorem dX7_init_17 : decode (mB M_X7_init) 17 = .ok (.invokespecial 14, 3) := by decide +kernel
theorem dX7_init_20 : decode (mB M_X7_init) 20 = .ok (.putfield 15, 3) := by decide +kernel
theorem dX7_init_23 : decode (mB M_X7_init) 23 = .ok (.aload_n 0, 1) := by decide +kernel
theorem dX7_init_24 : decode (mB M_X7_init) 24 = .ok (.new 19, 3) := by decide +kernel
theorem dX7_init_27 : decode (mB M_X7_init) 27 = .ok (.dup, 1) := by decide +kernel
theorem dX7_init_28 : decode (mB M_X7_init) 28 = .ok (.aload_n 1, 1) := by decide +kernel
theorem dX7_init_29 : decode (mB M_X7_init) 29 = .ok (.bipush 48, 2) := by decide +kernel
theorem dX7_init_31 : decode (mB M_X7_init) 31 = .ok (.invokespecial 21, 3) := by decide +kernel
theorem dX7_init_34 : decode (mB M_X7_init) 34 = .ok (.putfield 24, 3) := by decide +kernel
theorem dX7_init_37 : decode (mB M_X7_init) 37 = .ok (.aload_n 0, 1) := by decide +kernel
theorem dX7_init_38 : decode (mB M_X7_init) 38 = .ok (.new 19, 3) := by decide +kernel
theorem dX7_init_41 : decode (mB M_X7_init) 41 = .ok (.dup, 1) := by decide +kernel
theorem dX7_init_42 : decode (mB M_X7_init) 42 = .ok (.aload_n 1, 1) := by decide +kernel
theorem dX7_init_43 : decode (mB M_X7_init) 43 = .ok (.sipush 148, 3) := by decide +kernel
theorem dX7_init_46 : decode (mB M_X7_init) 46 = .ok (.invokespecial 21, 3) := by decide +kernel
theorem dX7_init_49 : decode (mB M_X7_init) 49 = .ok (.putfield 28, 3) := by decide +kernel
theorem dX7_init_52 : decode (mB M_X7_init) 52 = .ok (.aload_n 0, 1) := by decide +kernel
theorem dX7_init_53 : decode (mB M_X7_init) 53 = .ok (.new 31, 3) := by decide +kernel
theorem dX7_init_56 : decode (mB M_X7_init) 56 = .ok (.dup, 1) := by decide +kernel
theorem dX7_init_57 : decode (mB M_X7_init) 57 = .ok (.aload_n 1, 1) := by decide +kernel
theorem dX7_init_58 : decode (mB M_X7_init) 58 = .ok (.invokespecial 33, 3) := by decide +kernel
theorem dX7_init_61 : decode (mB M_X7_init) 61 = .ok (.putfield 36, 3) := by decide +kernel
theorem dX7_init_64 : decode (mB M_X7_init) 64 = .ok (.aload_n 0, 1) := by decide +kernel
theorem dX7_init_65 : decode (mB M_X7_init) 65 = .ok (.iconst 2, 1) := by decide +kernel
theorem dX7_init_66 : decode (mB M_X7_init) 66 = .ok (.anewarray 19, 3) := by decide +kernel
theorem dX7_init_69 : decode (mB M_X7_init) 69 = .ok (.putfield 40, 3) := by decide +kernel
theorem dX7_init_72 : decode (mB M_X7_init) 72 = .ok (.iconst 0, 1) := by decide +kernel
theorem dX7_init_73 : decode (mB M_X7_init) 73 = .ok (.istore_n 2, 1) := by decide +kernel
theorem dX7_init_74 : decode (mB M_X7_init) 74 = .ok (.iload_n 2, 1) := by decide +kernel
theorem dX7_init_75 : decode (mB M_X7_init) 75 = .ok (.iconst 2, 1) := by decide +kernel
theorem dX7_init_76 : decode (mB M_X7_init) 76 = .ok (.if_icmp .ge 25, 3) := by decide +kernel
theorem dX7_init_79 : decode (mB M_X7_init) 79 = .ok (.aload_n 0, 1) := by decide +kernel
theorem dX7_init_80 : decode (mB M_X7_init) 80 = .ok (.getfield 40, 3) := by decide +kernel
theorem dX7_init_83 : decode (mB M_X7_init) 83 = .ok (.iload_n 2, 1) := by decide +kernel
theorem dX7_init_84 : decode (mB M_X7_init) 84 = .ok (.new 19, 3) := by decide +kernel
theorem dX7_init_87 : decode (mB M_X7_init) 87 = .ok (.dup, 1) := by decide +kernel
theorem dX7_init_88 : decode (mB M_X7_init) 88 = .ok (.aload_n 1, 1) := by decide +kernel
theorem dX7_init_89 : decode (mB M_X7_init) 89 = .ok (.bipush 48, 2) := by decide +kernel
theorem dX7_init_91 : decode (mB M_X7_init) 91 = .ok (.invokespecial 21, 3) := by decide +kernel
theorem dX7_init_94 : decode (mB M_X7_init) 94 = .ok (.aastore, 1) := by decide +kernel
theorem dX7_init_95 : decode (mB M_X7_init) 95 = .ok (.iinc 2 1, 3) := by decide +kernel
theorem dX7_init_98 : decode (mB M_X7_init) 98 = .ok (.goto (-24), 3) := by decide +kernel
theorem dX7_init_101 : decode (mB M_X7_init) 101 = .ok (.aload_n 0, 1) := by decide +kernel
theorem dX7_init_102 : decode (mB M_X7_init) 102 = .ok (.iconst 2, 1) := by decide +kernel
theorem dX7_init_103 : decode (mB M_X7_init) 103 = .ok (.newarray .boolean, 2) := by decide +kernel
theorem dX7_init_105 : decode (mB M_X7_init) 105 = .ok (.putfield 44, 3) := by decide +kernel
theorem dX7_init_108 : decode (mB M_X7_init) 108 = .ok (.aload_n 0, 1) := by decide +kernel
theorem dX7_init_109 : decode (mB M_X7_init) 109 = .ok (.new 48, 3) := by decide +kernel
theorem dX7_init_112 : decode (mB M_X7_init) 112 = .ok (.dup, 1) := by decide +kernel
theorem dX7_init_113 : decode (mB M_X7_init) 113 = .ok (.invokespecial 50, 3) := by decide +kernel
theorem dX7_init_116 : decode (mB M_X7_init) 116 = .ok (.putfield 51, 3) := by decide +kernel
theorem dX7_init_119 : decode (mB M_X7_init) 119 = .ok (.return_, 1) := by decide +kernel
def c_X7_init_74 (v0 : Nat) (k74 : HP → Nat → Nat → Nat → Nat → Int32 → Option (HP × Nat)) (h : HP) (q bc bs : Nat) (v1 : Nat) (v2 : Int32) : Option (HP × Nat) :=
  if 2 ≤ v2 then (alN bc bs 2).bind fun b2 => (nwZ h q 2).bind fun h3 => (pR 7 5 h3 v0 q).bind fun h4 => (tk b2.1 1).bind fun b6 => (tk b2.2 1).bind fun b7 => (nwO h4 (q + 1) 5 [.null]).bind fun h5 => (tk b6 1).bind fun b9 => (tk b7 100).bind fun b10 => (f_X5_init h5 ((q + 1) + 1) (q + 1)).bind fun y8 => (pR 7 6 y8.1 v0 (q + 1)).bind fun h11 => some (h11, y8.2) else (gR 7 4 h v0).bind fun x12 => (tk bc 1).bind fun b14 => (tk bs 8).bind fun b15 => (nwO h q 3 [.null, .null, .null, .null, .int 0, .int 0, .int 0, .int 0]).bind fun h13 => (tk b14 7).bind fun b17 => (tk b15 1405).bind fun b18 => (f_X3_init h13 (q + 1) q v1 48).bind fun y16 => (wR 4 3 y16.1 x12 v2 q).bind fun h19 => k74 h19 y16.2 b17 b18 v1 (v2 + 1)
def b_X7_init_74 (v0 : Nat) : Nat → HP → Nat → Nat → Nat → Nat → Int32 → Option (HP × Nat)
  | 0, _, _, _, _, _, _ => none
  | n + 1, h, q, bc, bs, v1, v2 => c_X7_init_74 v0 (b_X7_init_74 v0 n) h q bc bs v1 v2
def b_X7_init_0 (v0 : Nat) (h : HP) (q bc bs : Nat) : Option (HP × Nat) :=
  (tk bc 1).bind fun b2 => (tk bs 5).bind fun b3 => (nwO h q 0 [.null, .null, .null, .null, .null]).bind fun h1 => (tk b2 157).bind fun b5 => (tk b3 1847).bind fun b6 => (f_X0_init h1 (q + 1) q).bind fun y4 => (tk b5 1).bind fun b8 => (tk b6 2).bind fun b9 => (nwO y4.1 y4.2 4 [.null, .int 0]).bind fun h7 => (tk b8 1).bind fun b11 => (tk b9 120).bind fun b12 => (f_X4_init h7 (y4.2 + 1) y4.2).bind fun y10 => (pR 7 0 y10.1 v0 y4.2).bind fun h13 => (tk b11 1).bind fun b15 => (tk b12 8).bind fun b16 => (nwO h13 y10.2 3 [.null, .null, .null, .null, .int 0, .int 0, .int 0, .int 0]).bind fun h14 => (tk b15 7).bind fun b18 => (tk b16 1405).bind fun b19 => (f_X3_init h14 (y10.2 + 1) y10.2 q 48).bind fun y17 => (pR 7 1 y17.1 v0 y10.2).bind fun h20 => (tk b18 1).bind fun b22 => (tk b19 8).bind fun b23 => (nwO h20 y17.2 3 [.null, .null, .null, .null, .int 0, .int 0, .int 0, .int 0]).bind fun h21 => (tk b22 7).bind fun b25 => (tk b23 1405).bind fun b26 => (f_X3_init h21 (y17.2 + 1) y17.2 q 148).bind fun y24 => (pR 7 2 y24.1 v0 y17.2).bind fun h27 => (tk b25 1).bind fun b29 => (tk b26 3).bind fun b30 => (nwO h27 y24.2 1 [.null, .int 0, .int 0]).bind fun h28 => (tk b29 113).bind fun b32 => (tk b30 19796).bind fun b33 => (f_X1_init h28 (y24.2 + 1) y24.2 q).bind fun y31 => (pR 7 3 y31.1 v0 y24.2).bind fun h34 => (alN b32 b33 2).bind fun b35 => (nwR 4 h34 y31.2 2).bind fun h36 => (pR 7 4 h36 v0 y31.2).bind fun h37 => b_X7_init_74 v0 FU h37 (y31.2 + 1) b35.1 b35.2 q 0
def f_X7_init (h : HP) (q : Nat) (v0 : Nat) : Option (HP × Nat) := b_X7_init_0 v0 h q 310 27530
theorem wc_X7_init_74 {l : Launch} {X : SCR} {Q : PST} {res : HP × Nat} (hQ : Q (.inl none) res.1 res.2) {v0 : Nat} {k74 : HP → Nat → Nat → Nat → Nat → Int32 → Option (HP × Nat)} (hk74 : ∀ (h : HP) (q bc bs : Nat) (v1 : Nat) (v2 : Int32), k74 h q bc bs v1 v2 = some res → SP l X M_X7_init 74 [(0, .ref v0), (1, .ref v1), (2, .int v2)] [] h q bc bs Q) {h : HP} {q bc bs : Nat} {v1 : Nat} {v2 : Int32} (hf : c_X7_init_74 v0 k74 h q bc bs v1 v2 = some res) : SP l X M_X7_init 74 [(0, .ref v0), (1, .ref v1), (2, .int v2)] [] h q bc bs Q := by
  rw [c_X7_init_74] at hf
  refine sp_iload_n (pc := 74) dX7_init_74 2 rfl ?_
  refine sp_iconst (pc := 75) (v := 2) dX7_init_75 (by decide) ?_
  refine sp_icmp_ge (pc := 76) (tgt := 101) dX7_init_76 (by decide) (fun c1 => ?_) (fun c1 => ?_)
  · rw [if_pos c1] at hf
    refine sp_aload_n (pc := 101) dX7_init_101 0 rfl ?_
    refine sp_iconst (pc := 102) (v := 2) dX7_init_102 (by decide) ?_
    obtain ⟨b2, eb2, hf⟩ := ob hf
    obtain ⟨h3, eh3, hf⟩ := ob hf
    obtain rfl := Option.some.inj eh3
    obtain ⟨g1b2, g2b2, g3b2, g4b2⟩ := alN_spec eb2
    refine sp_newaZ (pc := 103) (bc2 := b2.1) (bs2 := b2.2) bk_231 dX7_init_103 g1b2 rfl (Nat.le_trans (Nat.mul_le_mul_left _ (by decide)) g2b2) g3b2 g4b2 (fun hfr => ?_)
    obtain ⟨h4, eh4, hf⟩ := ob hf
    refine sp_pRF (pc := 105) pf_RX7_44 rfl dX7_init_105 rfl rfl eh4 ?_
    refine sp_aload_n (pc := 108) dX7_init_108 0 rfl ?_
    obtain ⟨b6, eb6, hf⟩ := ob hf
    obtain ⟨b7, eb7, hf⟩ := ob hf
    obtain ⟨h5, eh5, hf⟩ := ob hf
    obtain rfl := Option.some.inj eh5
    refine sp_new (pc := 109) (bc2 := b6) (bs2 := b7) nw_RX7_48 dX7_init_109 (tk_spec eb6) (tk_spec eb7) (fun hfr => ?_)
    refine sp_dup (pc := 112) dX7_init_112 rfl ?_
    obtain ⟨b9, eb9, hf⟩ := ob hf
    obtain ⟨b10, eb10, hf⟩ := ob hf
    obtain ⟨y8, ey8, hf⟩ := ob hf
    refine sp_callIv (pc := 113) (z := M_X5_init) (As := []) (b := (q + 1)) (bc2 := b9) (bs2 := b10) (m_X5_init (Q := _) ⟨(), rfl, ?_⟩ ey8) rfl rfl rfl dX7_init_113 rfl ck_X7_init_50 (Nat.le_of_ble_eq_true rfl) (tk_spec eb9) (tk_spec eb10) rfl
    obtain ⟨h11, eh11, hf⟩ := ob hf
    refine sp_pRF (pc := 116) pf_RX7_51 rfl dX7_init_116 rfl rfl eh11 ?_
    obtain rfl := Option.some.inj hf
    exact sp_return (pc := 119) dX7_init_119 rfl hQ
  · rw [if_neg c1] at hf
    refine sp_aload_n (pc := 79) dX7_init_79 0 rfl ?_
    obtain ⟨x12, ex12, hf⟩ := ob hf
    refine sp_gR (pc := 80) fl_RX7_40 dX7_init_80 ex12 ?_
    refine sp_iload_n (pc := 83) dX7_init_83 2 rfl ?_
    obtain ⟨b14, eb14, hf⟩ := ob hf
    obtain ⟨b15, eb15, hf⟩ := ob hf
    obtain ⟨h13, eh13, hf⟩ := ob hf
    obtain rfl := Option.some.inj eh13
    refine sp_new (pc := 84) (bc2 := b14) (bs2 := b15) nw_RX7_19 dX7_init_84 (tk_spec eb14) (tk_spec eb15) (fun hfr => ?_)
    refine sp_dup (pc := 87) dX7_init_87 rfl ?_
    refine sp_aload_n (pc := 88) dX7_init_88 1 rfl ?_
    refine sp_bipush (pc := 89) (v := 48) dX7_init_89 (by decide) ?_
    obtain ⟨b17, eb17, hf⟩ := ob hf
    obtain ⟨b18, eb18, hf⟩ := ob hf
    obtain ⟨y16, ey16, hf⟩ := ob hf
    refine sp_callIv (pc := 91) (z := M_X3_init) (As := [.ref v1, .int 48]) (b := q) (bc2 := b17) (bs2 := b18) (m_X3_init (Q := _) ⟨(), rfl, ?_⟩ ey16) rfl rfl rfl dX7_init_91 rfl ck_X7_init_21 (Nat.le_of_ble_eq_true rfl) (tk_spec eb17) (tk_spec eb18) rfl
    obtain ⟨h19, eh19, hf⟩ := ob hf
    refine sp_wR4 (pc := 94) dX7_init_94 eh19 ?_
    refine sp_iinc (pc := 95) (v := v2 + 1) (lv' := [(2, .int (v2 + 1)), (0, .ref v0), (1, .ref v1)]) dX7_init_95 2 rfl rfl (by decide) rfl ?_
    refine sp_goto (pc := 98) (tgt := 74) dX7_init_98 (by decide) ?_
    exact sp_sub [1, 2, 0] rfl (hk74 _ _ _ _ _ _ hf)

theorem w_X7_init_74 {l : Launch} {X : SCR} {Q : PST} {res : HP × Nat} (hQ : Q (.inl none) res.1 res.2) {v0 : Nat} : ∀ (n : Nat) {h : HP} {q bc bs : Nat} {v1 : Nat} {v2 : Int32}, b_X7_init_74 v0 n h q bc bs v1 v2 = some res → SP l X M_X7_init 74 [(0, .ref v0), (1, .ref v1), (2, .int v2)] [] h q bc bs Q := by
  intro n
  induction n with
  | zero =>
    intro h q bc bs v1 v2 hf
    rw [b_X7_init_74] at hf
    cases hf
  | succ n ih =>
    intro h q bc bs v1 v2 hf
    rw [b_X7_init_74] at hf
    exact wc_X7_init_74 hQ (fun h q bc bs v1 v2 hf => ih hf) hf

theorem w_X7_init_0 {l : Launch} {X : SCR} {Q : PST} {res : HP × Nat} {h : HP} {q bc bs : Nat} (hQ : Q (.inl none) res.1 res.2) {v0 : Nat} (hf : b_X7_init_0 v0 h q bc bs  = some res) : SP l X M_X7_init 0 [(0, .ref v0)] [] h q bc bs Q := by
  rw [b_X7_init_0] at hf
  refine sp_aload_n (pc := 0) dX7_init_0 0 rfl ?_
  refine sp_objInit (pc := 1) bk_87 bk_88 bk_89 dX7_init_1 (by decide) (Nat.le_of_ble_eq_true rfl) ?_
  obtain ⟨b2, eb2, hf⟩ := ob hf
  obtain ⟨b3, eb3, hf⟩ := ob hf
  obtain ⟨h1, eh1, hf⟩ := ob hf
  obtain rfl := Option.some.inj eh1
  refine sp_new (pc := 4) (bc2 := b2) (bs2 := b3) nw_RX7_9 dX7_init_4 (tk_spec eb2) (tk_spec eb3) (fun hfr => ?_)
  refine sp_dup (pc := 7) dX7_init_7 rfl ?_
  obtain ⟨b5, eb5, hf⟩ := ob hf
  obtain ⟨b6, eb6, hf⟩ := ob hf
  obtain ⟨y4, ey4, hf⟩ := ob hf
  refine sp_callIv (pc := 8) (z := M_X0_init) (As := []) (b := q) (bc2 := b5) (bs2 := b6) (m_X0_init (Q := _) ⟨(), rfl, ?_⟩ ey4) rfl rfl rfl dX7_init_8 rfl ck_X7_init_11 (Nat.le_of_ble_eq_true rfl) (tk_spec eb5) (tk_spec eb6) rfl
  refine sp_astore_n (pc := 11) (lv' := [(1, .ref q), (0, .ref v0)]) dX7_init_11 (by decide) rfl ?_
  refine sp_aload_n (pc := 12) dX7_init_12 1 rfl ?_
  obtain ⟨b8, eb8, hf⟩ := ob hf
  obtain ⟨b9, eb9, hf⟩ := ob hf
  obtain ⟨h7, eh7, hf⟩ := ob hf
  obtain rfl := Option.some.inj eh7
  refine sp_new (pc := 13) (bc2 := b8) (bs2 := b9) nw_RX7_12 dX7_init_13 (tk_spec eb8) (tk_spec eb9) (fun hfr => ?_)
  refine sp_dup (pc := 16) dX7_init_16 rfl ?_
  obtain ⟨b11, eb11, hf⟩ := ob hf
  obtain ⟨b12, eb12, hf⟩ := ob hf
  obtain ⟨y10, ey10, hf⟩ := ob hf
  refine sp_callIv (pc := 17) (z := M_X4_init) (As := []) (b := y4.2) (bc2 := b11) (bs2 := b12) (m_X4_init (Q := _) ⟨(), rfl, ?_⟩ ey10) rfl rfl rfl dX7_init_17 rfl ck_X7_init_14 (Nat.le_of_ble_eq_true rfl) (tk_spec eb11) (tk_spec eb12) rfl
  obtain ⟨h13, eh13, hf⟩ := ob hf
  refine sp_pRF (pc := 20) pf_RX7_15 rfl dX7_init_20 rfl rfl eh13 ?_
  refine sp_aload_n (pc := 23) dX7_init_23 1 rfl ?_
  obtain ⟨b15, eb15, hf⟩ := ob hf
  obtain ⟨b16, eb16, hf⟩ := ob hf
  obtain ⟨h14, eh14, hf⟩ := ob hf
  obtain rfl := Option.some.inj eh14
  refine sp_new (pc := 24) (bc2 := b15) (bs2 := b16) nw_RX7_19 dX7_init_24 (tk_spec eb15) (tk_spec eb16) (fun hfr => ?_)
  refine sp_dup (pc := 27) dX7_init_27 rfl ?_
  refine sp_aload_n (pc := 28) dX7_init_28 0 rfl ?_
  refine sp_bipush (pc := 29) (v := 48) dX7_init_29 (by decide) ?_
  obtain ⟨b18, eb18, hf⟩ := ob hf
  obtain ⟨b19, eb19, hf⟩ := ob hf
  obtain ⟨y17, ey17, hf⟩ := ob hf
  refine sp_callIv (pc := 31) (z := M_X3_init) (As := [.ref q, .int 48]) (b := y10.2) (bc2 := b18) (bs2 := b19) (m_X3_init (Q := _) ⟨(), rfl, ?_⟩ ey17) rfl rfl rfl dX7_init_31 rfl ck_X7_init_21 (Nat.le_of_ble_eq_true rfl) (tk_spec eb18) (tk_spec eb19) rfl
  obtain ⟨h20, eh20, hf⟩ := ob hf
  refine sp_pRF (pc := 34) pf_RX7_24 rfl dX7_init_34 rfl rfl eh20 ?_
  refine sp_aload_n (pc := 37) dX7_init_37 1 rfl ?_
  obtain ⟨b22, eb22, hf⟩ := ob hf
  obtain ⟨b23, eb23, hf⟩ := ob hf
  obtain ⟨h21, eh21, hf⟩ := ob hf
  obtain rfl := Option.some.inj eh21
  refine sp_new (pc := 38) (bc2 := b22) (bs2 := b23) nw_RX7_19 dX7_init_38 (tk_spec eb22) (tk_spec eb23) (fun hfr => ?_)
  refine sp_dup (pc := 41) dX7_init_41 rfl ?_
  refine sp_aload_n (pc := 42) dX7_init_42 0 rfl ?_
  refine sp_sipush (pc := 43) (v := 148) dX7_init_43 (by decide) ?_
  obtain ⟨b25, eb25, hf⟩ := ob hf
  obtain ⟨b26, eb26, hf⟩ := ob hf
  obtain ⟨y24, ey24, hf⟩ := ob hf
  refine sp_callIv (pc := 46) (z := M_X3_init) (As := [.ref q, .int 148]) (b := y17.2) (bc2 := b25) (bs2 := b26) (m_X3_init (Q := _) ⟨(), rfl, ?_⟩ ey24) rfl rfl rfl dX7_init_46 rfl ck_X7_init_21 (Nat.le_of_ble_eq_true rfl) (tk_spec eb25) (tk_spec eb26) rfl
  obtain ⟨h27, eh27, hf⟩ := ob hf
  refine sp_pRF (pc := 49) pf_RX7_28 rfl dX7_init_49 rfl rfl eh27 ?_
  refine sp_aload_n (pc := 52) dX7_init_52 1 rfl ?_
  obtain ⟨b29, eb29, hf⟩ := ob hf
  obtain ⟨b30, eb30, hf⟩ := ob hf
  obtain ⟨h28, eh28, hf⟩ := ob hf
  obtain rfl := Option.some.inj eh28
  refine sp_new (pc := 53) (bc2 := b29) (bs2 := b30) nw_RX7_31 dX7_init_53 (tk_spec eb29) (tk_spec eb30) (fun hfr => ?_)
  refine sp_dup (pc := 56) dX7_init_56 rfl ?_
  refine sp_aload_n (pc := 57) dX7_init_57 0 rfl ?_
  obtain ⟨b32, eb32, hf⟩ := ob hf
  obtain ⟨b33, eb33, hf⟩ := ob hf
  obtain ⟨y31, ey31, hf⟩ := ob hf
  refine sp_callIv (pc := 58) (z := M_X1_init) (As := [.ref q]) (b := y24.2) (bc2 := b32) (bs2 := b33) (m_X1_init (Q := _) ⟨(), rfl, ?_⟩ ey31) rfl rfl rfl dX7_init_58 rfl ck_X7_init_33 (Nat.le_of_ble_eq_true rfl) (tk_spec eb32) (tk_spec eb33) rfl
  obtain ⟨h34, eh34, hf⟩ := ob hf
  refine sp_pRF (pc := 61) pf_RX7_36 rfl dX7_init_61 rfl rfl eh34 ?_
  refine sp_aload_n (pc := 64) dX7_init_64 1 rfl ?_
  refine sp_iconst (pc := 65) (v := 2) dX7_init_65 (by decide) ?_
  obtain ⟨b35, eb35, hf⟩ := ob hf
  obtain ⟨h36, eh36, hf⟩ := ob hf
  obtain rfl := Option.some.inj eh36
  obtain ⟨g1b35, g2b35, g3b35, g4b35⟩ := alN_spec eb35
  refine sp_anew4 (pc := 66) (bc2 := b35.1) (bs2 := b35.2) bk_166 tk_209 dX7_init_66 g1b35 rfl (Nat.le_trans (Nat.mul_le_mul_left _ (by decide)) g2b35) g3b35 g4b35 (fun hfr => ?_)
  obtain ⟨h37, eh37, hf⟩ := ob hf
  refine sp_pRF (pc := 69) pf_RX7_40 rfl dX7_init_69 rfl rfl eh37 ?_
  refine sp_iconst (pc := 72) (v := 0) dX7_init_72 (by decide) ?_
  refine sp_istore_n (pc := 73) (lv' := [(2, .int 0), (1, .ref q), (0, .ref v0)]) dX7_init_73 (by decide) rfl ?_
  exact sp_sub [2, 1, 0] rfl (w_X7_init_74 hQ FU hf)

theorem m_X7_init {l : Launch} {Q : PST} {h : HP} {v0 : Nat} {sz : Nat} {res : HP × Nat} (hQ : Q (.inl none) res.1 res.2) (hf : f_X7_init h sz v0 = some res) : MM l M_X7_init [.ref v0] h sz Q := by
  rw [f_X7_init] at hf
  exact MM_of wok_X7_init (by decide +kernel) (Nat.le_of_ble_eq_true rfl) ((w_X7_init_0 hQ hf))

theorem dX7_append_0 : decode (mB M_X7_append) 0 = .ok (.iload_n 1, 1) := by decide +kernel
theorem dX7_append_1 : decode (mB M_X7_append) 1 = .ok (.ifCond .lt 10, 3) := by decide +kernel
theorem dX7_append_4 : decode (mB M_X7_append) 4 = .ok (.iload_n 1, 1) := by decide +kernel
theorem dX7_append_5 : decode (mB M_X7_append) 5 = .ok (.sipush 255, 3) := by decide +kernel
theorem dX7_append_8 : decode (mB M_X7_append) 8 = .ok (.if_icmp .le 13, 3) := by decide +kernel
theorem dX7_append_11 : decode (mB M_X7_append) 11 = .ok (.new 55, 3) := by decide +kernel
theorem dX7_append_14 : decode (mB M_X7_append) 14 = .ok (.dup, 1) := by decide +kernel
theorem dX7_append_15 : decode (mB M_X7_append) 15 = .ok (.ldc 57, 2) := by decide +kernel
theorem dX7_append_17 : decode (mB M_X7_append) 17 = .ok (.invokespecial 59, 3) := by decide +kernel
theorem dX7_append_20 : decode (mB M_X7_append) 20 = .ok (.athrow, 1) := by decide +kernel
theorem dX7_append_21 : decode (mB M_X7_append) 21 = .ok (.aload_n 0, 1) := by decide +kernel
theorem dX7_append_22 : decode (mB M_X7_append) 22 = .ok (.getfield 15, 3) := by decide +kernel
theorem dX7_append_25 : decode (mB M_X7_append) 25 = .ok (.invokevirtual 62, 3) := by decide +kernel
theorem dX7_append_28 : decode (mB M_X7_append) 28 = .ok (.ifCond .eq 13, 3) := by decide +kernel
theorem dX7_append_31 : decode (mB M_X7_append) 31 = .ok (.new 66, 3) := by decide +kernel
theorem dX7_append_34 : decode (mB M_X7_append) 34 = .ok (.dup, 1) := by decide +kernel
theorem dX7_append_35 : decode (mB M_X7_append) 35 = .ok (.ldc 68, 2) := by decide +kernel
theorem dX7_append_37 : decode (mB M_X7_append) 37 = .ok (.invokespecial 70, 3) := by decide +kernel
theorem dX7_append_40 : decode (mB M_X7_append) 40 = .ok (.athrow, 1) := by decide +kernel
theorem dX7_append_41 : decode (mB M_X7_append) 41 = .ok (.aload_n 0, 1) := by decide +kernel
theorem dX7_append_42 : decode (mB M_X7_append) 42 = .ok (.getfield 15, 3) := by decide +kernel
theorem dX7_append_45 : decode (mB M_X7_append) 45 = .ok (.iload_n 1, 1) := by decide +kernel
theorem dX7_append_46 : decode (mB M_X7_append) 46 = .ok (.invokevirtual 71, 3) := by decide +kernel
theorem dX7_append_49 : decode (mB M_X7_append) 49 = .ok (.aload_n 0, 1) := by decide +kernel
theorem dX7_append_50 : decode (mB M_X7_append) 50 = .ok (.getfield 15, 3) := by decide +kernel
theorem dX7_append_53 : decode (mB M_X7_append) 53 = .ok (.invokevirtual 75, 3) := by decide +kernel
theorem dX7_append_56 : decode (mB M_X7_append) 56 = .ok (.ireturn, 1) := by decide +kernel
def b_X7_append_11 (h : HP) : Option ((Int32 ⊕ String) × HP) :=
  some (.inr "java/lang/IllegalArgumentException", h)
def b_X7_append_0 (v0 : Nat) (v1 : Int32) (h : HP) : Option ((Int32 ⊕ String) × HP) :=
  if v1 < 0 then b_X7_append_11 h else if v1 ≤ 255 then (gR 7 0 h v0).bind fun x3 => (f_X4_isFull h x3).bind fun y4 => if y4 = 0 then (gR 7 0 h v0).bind fun x6 => (f_X4_addSign h x6 v1).bind fun y7 => (gR 7 0 y7 v0).bind fun x8 => (f_X4_length y7 x8).bind fun y9 => some (.inl y9, y7) else some (.inr "java/lang/IllegalStateException", h) else b_X7_append_11 h
def f_X7_append (h : HP) (v0 : Nat) (v1 : Int32) : Option ((Int32 ⊕ String) × HP) := (kO 7 h v0).bind fun _ => b_X7_append_0 v0 v1 h
theorem w_X7_append_11 {l : Launch} {X : SCR} {Q : PST} {bc bs : Nat} {res : (Int32 ⊕ String) × HP} {h : HP} (hQ : ∀ sz', Q (outT res.1) res.2 sz') (hlt : l.stackTraces = false) (hX2 : X.2 = some []) (hbc : 1 ≤ bc) (hbs : 6 ≤ bs) {sz : Nat} (hf : b_X7_append_11 h  = some res) : SP l X M_X7_append 11 [] [] h sz bc bs Q := by
  rw [b_X7_append_11] at hf
  obtain rfl := Option.some.inj hf
  exact sp_throwS (pc := 11) tr_RX7_55_57_59 hlt hX2 dX7_append_11 dX7_append_14 dX7_append_15 dX7_append_17 dX7_append_20 (by decide) (Nat.le_of_ble_eq_true rfl) hbc hbs hQ

theorem w_X7_append_0 {l : Launch} {X : SCR} {Q : PST} {bc bs : Nat} {res : (Int32 ⊕ String) × HP} {h : HP} (hQ : ∀ sz', Q (outT res.1) res.2 sz') (hlt : l.stackTraces = false) (hX2 : X.2 = some []) (hbc : 1 ≤ bc) (hbs : 6 ≤ bs) {v0 : Nat} {v1 : Int32} {sz : Nat} (hf : b_X7_append_0 v0 v1 h  = some res) : SP l X M_X7_append 0 [(0, .ref v0), (1, .int v1)] [] h sz bc bs Q := by
  rw [b_X7_append_0] at hf
  refine sp_iload_n (pc := 0) dX7_append_0 1 rfl ?_
  refine sp_if_lt (pc := 1) (tgt := 11) dX7_append_1 (by decide) (fun c1 => ?_) (fun c1 => ?_)
  · rw [if_pos c1] at hf
    exact sp_sub [] rfl (w_X7_append_11 hQ hlt hX2 hbc hbs hf)
  · rw [if_neg c1] at hf
    refine sp_iload_n (pc := 4) dX7_append_4 1 rfl ?_
    refine sp_sipush (pc := 5) (v := 255) dX7_append_5 (by decide) ?_
    refine sp_icmp_le (pc := 8) (tgt := 21) dX7_append_8 (by decide) (fun c2 => ?_) (fun c2 => ?_)
    · rw [if_pos c2] at hf
      refine sp_aload_n (pc := 21) dX7_append_21 0 rfl ?_
      obtain ⟨x3, ex3, hf⟩ := ob hf
      refine sp_gR (pc := 22) fl_RX7_15 dX7_append_22 ex3 ?_
      obtain ⟨y4, ey4, hf⟩ := ob hf
      obtain ⟨fsy4, hoy4⟩ := o_X4_isFull ey4
      refine sp_callVi (pc := 25) (z := M_X4_isFull) (As := []) (b := x3) (bc2 := bc) (bs2 := bs) (m_X4_isFull (Q := _) (fun sz => ⟨y4, rfl, ?_⟩) ey4) rfl dX7_append_25 hoy4 rfl rfl ck_X7_append_62 (Nat.le_of_ble_eq_true rfl) rfl rfl rfl
      refine sp_if_eq (pc := 28) (tgt := 41) dX7_append_28 (by decide) (fun c5 => ?_) (fun c5 => ?_)
      · rw [if_pos c5] at hf
        refine sp_aload_n (pc := 41) dX7_append_41 0 rfl ?_
        obtain ⟨x6, ex6, hf⟩ := ob hf
        refine sp_gR (pc := 42) fl_RX7_15 dX7_append_42 ex6 ?_
        refine sp_iload_n (pc := 45) dX7_append_45 1 rfl ?_
        obtain ⟨y7, ey7, hf⟩ := ob hf
        obtain ⟨fsy7, hoy7⟩ := o_X4_addSign ey7
        refine sp_callVv (pc := 46) (z := M_X4_addSign) (As := [.int v1]) (b := x6) (bc2 := bc) (bs2 := bs) (m_X4_addSign (Q := _) (fun sz => ⟨(), rfl, ?_⟩) ey7) rfl dX7_append_46 hoy7 rfl rfl ck_X7_append_71 (Nat.le_of_ble_eq_true rfl) rfl rfl rfl
        refine sp_aload_n (pc := 49) dX7_append_49 0 rfl ?_
        obtain ⟨x8, ex8, hf⟩ := ob hf
        refine sp_gR (pc := 50) fl_RX7_15 dX7_append_50 ex8 ?_
        obtain ⟨y9, ey9, hf⟩ := ob hf
        obtain ⟨fsy9, hoy9⟩ := o_X4_length ey9
        refine sp_callVi (pc := 53) (z := M_X4_length) (As := []) (b := x8) (bc2 := bc) (bs2 := bs) (m_X4_length (Q := _) (fun sz => ⟨y9, rfl, ?_⟩) ey9) rfl dX7_append_53 hoy9 rfl rfl ck_X7_append_75 (Nat.le_of_ble_eq_true rfl) rfl rfl rfl
        obtain rfl := Option.some.inj hf
        exact sp_ireturn (pc := 56) dX7_append_56 rfl rfl (hQ _)
      · rw [if_neg c5] at hf
        obtain rfl := Option.some.inj hf
        exact sp_throwS (pc := 31) tr_RX7_66_68_70 hlt hX2 dX7_append_31 dX7_append_34 dX7_append_35 dX7_append_37 dX7_append_40 (by decide) (Nat.le_of_ble_eq_true rfl) hbc hbs hQ
    · rw [if_neg c2] at hf
      exact sp_sub [] rfl (w_X7_append_11 hQ hlt hX2 hbc hbs hf)

theorem o_X7_append {h : HP} {v0 : Nat} {v1 : Int32} {res : (Int32 ⊕ String) × HP} (hf : f_X7_append h v0 v1 = some res) : ∃ fs, h v0 = some (.inr (7, fs)) := by
  obtain ⟨u, eu, -⟩ := ob hf
  exact kO_spec eu

theorem m_X7_append {l : Launch} {Q : PST} {h : HP} {v0 : Nat} {v1 : Int32} {sz : Nat} {res : (Int32 ⊕ String) × HP} (hQ : ∀ sz', Q (outT res.1) res.2 sz') (hlt : l.stackTraces = false) (hf : f_X7_append h v0 v1 = some res) : MM l M_X7_append [.ref v0, .int v1] h sz Q := by
  obtain ⟨u, eu, hf⟩ := ob hf
  exact MM_of wok_X7_append (by decide +kernel) (Nat.le_of_ble_eq_true rfl) ((w_X7_append_0 hQ hlt rfl (by decide) (by decide) hf))

theorem dX7_clearText_0 : decode (mB M_X7_clearText) 0 = .ok (.aload_n 0, 1) := by decide +kernel
theorem dX7_clearText_1 : decode (mB M_X7_clearText) 1 = .ok (.getfield 15, 3) := by decide +kernel
theorem dX7_clearText_4 : decode (mB M_X7_clearText) 4 = .ok (.invokevirtual 75, 3) := by decide +kernel
theorem dX7_clearText_7 : decode (mB M_X7_clearText) 7 = .ok (.istore_n 1, 1) := by decide +kernel
theorem dX7_clearText_8 : decode (mB M_X7_clearText) 8 = .ok (.aload_n 0, 1) := by decide +kernel
theorem dX7_clearText_9 : decode (mB M_X7_clearText) 9 = .ok (.getfield 15, 3) := by decide +kernel
theorem dX7_clearText_12 : decode (mB M_X7_clearText) 12 = .ok (.invokevirtual 79, 3) := by decide +kernel
theorem dX7_clearText_15 : decode (mB M_X7_clearText) 15 = .ok (.iload_n 1, 1) := by decide +kernel
theorem dX7_clearText_16 : decode (mB M_X7_clearText) 16 = .ok (.ireturn, 1) := by decide +kernel
def b_X7_clearText_0 (v0 : Nat) (h : HP) : Option (Int32 × HP) :=
  (gR 7 0 h v0).bind fun x1 => (f_X4_length h x1).bind fun y2 => (gR 7 0 h v0).bind fun x3 => (f_X4_empty h x3).bind fun y4 => some (y2, y4)
def f_X7_clearText (h : HP) (v0 : Nat) : Option (Int32 × HP) := (kO 7 h v0).bind fun _ => b_X7_clearText_0 v0 h
theorem w_X7_clearText_0 {l : Launch} {X : SCR} {Q : PST} {bc bs : Nat} {res : Int32 × HP} {h : HP} (hQ : ∀ sz', Q (.inl (some (.int res.1))) res.2 sz') {v0 : Nat} {sz : Nat} (hf : b_X7_clearText_0 v0 h  = some res) : SP l X M_X7_clearText 0 [(0, .ref v0)] [] h sz bc bs Q := by
  rw [b_X7_clearText_0] at hf
  refine sp_aload_n (pc := 0) dX7_clearText_0 0 rfl ?_
  obtain ⟨x1, ex1, hf⟩ := ob hf
  refine sp_gR (pc := 1) fl_RX7_15 dX7_clearText_1 ex1 ?_
  obtain ⟨y2, ey2, hf⟩ := ob hf
  obtain ⟨fsy2, hoy2⟩ := o_X4_length ey2
  refine sp_callVi (pc := 4) (z := M_X4_length) (As := []) (b := x1) (bc2 := bc) (bs2 := bs) (m_X4_length (Q := _) (fun sz => ⟨y2, rfl, ?_⟩) ey2) rfl dX7_clearText_4 hoy2 rfl rfl ck_X7_clearText_75 (Nat.le_of_ble_eq_true rfl) rfl rfl rfl
  refine sp_istore_n (pc := 7) (lv' := [(1, .int y2), (0, .ref v0)]) dX7_clearText_7 (by decide) rfl ?_
  refine sp_aload_n (pc := 8) dX7_clearText_8 1 rfl ?_
  obtain ⟨x3, ex3, hf⟩ := ob hf
  refine sp_gR (pc := 9) fl_RX7_15 dX7_clearText_9 ex3 ?_
  obtain ⟨y4, ey4, hf⟩ := ob hf
  obtain ⟨fsy4, hoy4⟩ := o_X4_empty ey4
  refine sp_callVv (pc := 12) (z := M_X4_empty) (As := []) (b := x3) (bc2 := bc) (bs2 := bs) (m_X4_empty (Q := _) (fun sz => ⟨(), rfl, ?_⟩) ey4) rfl dX7_clearText_12 hoy4 rfl rfl ck_X7_clearText_79 (Nat.le_of_ble_eq_true rfl) rfl rfl rfl
  refine sp_iload_n (pc := 15) dX7_clearText_15 0 rfl ?_
  obtain rfl := Option.some.inj hf
  exact sp_ireturn (pc := 16) dX7_clearText_16 rfl rfl (hQ _)

theorem o_X7_clearText {h : HP} {v0 : Nat} {res : Int32 × HP} (hf : f_X7_clearText h v0 = some res) : ∃ fs, h v0 = some (.inr (7, fs)) := by
  obtain ⟨u, eu, -⟩ := ob hf
  exact kO_spec eu

theorem m_X7_clearText {l : Launch} {Q : PST} {h : HP} {v0 : Nat} {sz : Nat} {res : Int32 × HP} (hQ : ∀ sz', Q (.inl (some (.int res.1))) res.2 sz') (hf : f_X7_clearText h v0 = some res) : MM l M_X7_clearText [.ref v0] h sz Q := by
  obtain ⟨u, eu, hf⟩ := ob hf
  exact MM_of wok_X7_clearText (by decide +kernel) (Nat.le_of_ble_eq_true rfl) ((w_X7_clearText_0 hQ hf))

theorem dX7_errorPosition_0 : decode (mB M_X7_errorPosition) 0 = .ok (.aload_n 0, 1) := by decide +kernel
theorem dX7_errorPosition_1 : decode (mB M_X7_errorPosition) 1 = .ok (.getfield 15, 3) := by decide +kernel
theorem dX7_errorPosition_4 : decode (mB M_X7_errorPosition) 4 = .ok (.invokevirtual 82, 3) := by decide +kernel
theorem dX7_errorPosition_7 : decode (mB M_X7_errorPosition) 7 = .ok (.ireturn, 1) := by decide +kernel
def b_X7_errorPosition_0 (h : HP) (v0 : Nat) : Option (Int32) :=
  (gR 7 0 h v0).bind fun x1 => (f_X4_firstError h x1).bind fun y2 => some (y2)
def f_X7_errorPosition (h : HP) (v0 : Nat) : Option (Int32) := (kO 7 h v0).bind fun _ => b_X7_errorPosition_0 h v0
theorem w_X7_errorPosition_0 {l : Launch} {X : SCR} {Q : PST} {bc bs : Nat} {res : Int32} {h : HP} (hQ : ∀ sz', Q (.inl (some (.int res))) h sz') {v0 : Nat} {sz : Nat} (hf : b_X7_errorPosition_0 h v0  = some res) : SP l X M_X7_errorPosition 0 [(0, .ref v0)] [] h sz bc bs Q := by
  rw [b_X7_errorPosition_0] at hf
  refine sp_aload_n (pc := 0) dX7_errorPosition_0 0 rfl ?_
  obtain ⟨x1, ex1, hf⟩ := ob hf
  refine sp_gR (pc := 1) fl_RX7_15 dX7_errorPosition_1 ex1 ?_
  obtain ⟨y2, ey2, hf⟩ := ob hf
  obtain ⟨fsy2, hoy2⟩ := o_X4_firstError ey2
  refine sp_callVi (pc := 4) (z := M_X4_firstError) (As := []) (b := x1) (bc2 := bc) (bs2 := bs) (m_X4_firstError (Q := _) (fun sz => ⟨y2, rfl, ?_⟩) ey2) rfl dX7_errorPosition_4 hoy2 rfl rfl ck_X7_errorPosition_82 (Nat.le_of_ble_eq_true rfl) rfl rfl rfl
  obtain rfl := Option.some.inj hf
  exact sp_ireturn (pc := 7) dX7_errorPosition_7 rfl rfl (hQ _)

theorem o_X7_errorPosition {h : HP} {v0 : Nat} {res : Int32} (hf : f_X7_errorPosition h v0 = some res) : ∃ fs, h v0 = some (.inr (7, fs)) := by
  obtain ⟨u, eu, -⟩ := ob hf
  exact kO_spec eu

theorem m_X7_errorPosition {l : Launch} {Q : PST} {h : HP} {v0 : Nat} {sz : Nat} {res : Int32} (hQ : ∀ sz', Q (.inl (some (.int res))) h sz') (hf : f_X7_errorPosition h v0 = some res) : MM l M_X7_errorPosition [.ref v0] h sz Q := by
  obtain ⟨u, eu, hf⟩ := ob hf
  exact MM_of wok_X7_errorPosition (by decide +kernel) (Nat.le_of_ble_eq_true rfl) ((w_X7_errorPosition_0 hQ hf))

theorem dX7_doTextCommand_0 : decode (mB M_X7_doTextCommand) 0 = .ok (.aload_n 0, 1) := by decide +kernel
theorem dX7_doTextCommand_1 : decode (mB M_X7_doTextCommand) 1 = .ok (.getfield 15, 3) := by decide +kernel
theorem dX7_doTextCommand_4 : decode (mB M_X7_doTextCommand) 4 = .ok (.iload_n 1, 1) := by decide +kernel
theorem dX7_doTextCommand_5 : decode (mB M_X7_doTextCommand) 5 = .ok (.invokevirtual 302, 3) := by decide +kernel
theorem dX7_doTextCommand_8 : decode (mB M_X7_doTextCommand) 8 = .ok (.lookupswitch 174 #[(99, 155), (102, 120), (109, 128), (111, 147), (112, 60), (120, 90)], 60) := by decide +kernel
theorem dX7_doTextCommand_68 : decode (mB M_X7_doTextCommand) 68 = .ok (.aload_n 0, 1) := by decide +kernel
theorem dX7_doTextCommand_69 : decode (mB M_X7_doTextCommand) 69 = .ok (.getfield 24, 3) := by decide +kernel
theorem dX7_doTextCommand_72 : decode (mB M_X7_doTextCommand) 72 = .ok (.aload_n 0, 1) := by decide +kernel
theorem dX7_doTextCommand_73 : decode (mB M_X7_doTextCommand) 73 = .ok (.getfield 15, 3) := by decide +kernel
theorem dX7_doTextCommand_76 : decode (mB M_X7_doTextCommand) 76 = .ok (.iload_n 1, 1) := by decide +kernel
theorem dX7_doTextCommand_77 : decode (mB M_X7_doTextCommand) 77 = .ok (.iconst 1, 1) := by decide +kernel
theorem dX7_doTextCommand_78 : decode (mB M_X7_doTextCommand) 78 = .ok (.iadd, 1) := by decide +kernel
theorem dX7_doTextCommand_79 : decode (mB M_X7_doTextCommand) 79 = .ok (.iconst 2, 1) := by decide +kernel
theorem dX7_doTextCommand_80 : decode (mB M_X7_doTextCommand) 80 = .ok (.invokevirtual 305, 3) := by decide +kernel
theorem dX7_doTextCommand_83 : decode (mB M_X7_doTextCommand) 83 = .ok (.aload_n 0, 1) := by decide +kernel
theorem dX7_doTextCommand_84 : decode (mB M_X7_doTextCommand) 84 = .ok (.getfield 15, 3) := by decide +kernel
theorem dX7_doTextCommand_87 : decode (mB M_X7_doTextCommand) 87 = .ok (.iload_n 1, 1) := by decide +kernel
theorem dX7_doTextCommand_88 : decode (mB M_X7_doTextCommand) 88 = .ok (.iconst 3, 1) := by decide +kernel
theorem dX7_doTextCommand_89 : decode (mB M_X7_doTextCommand) 89 = .ok (.iadd, 1) := by decide +kernel
theorem dX7_doTextCommand_90 : decode (mB M_X7_doTextCommand) 90 = .ok (.iconst 3, 1) := by decide +kernel
theorem dX7_doTextCommand_91 : decode (mB M_X7_doTextCommand) 91 = .ok (.invokevirtual 305, 3) := by decide +kernel
theorem dX7_doTextCommand_94 : decode (mB M_X7_doTextCommand) 94 = .ok (.invokevirtual 308, 3) := by decide +kernel
theorem dX7_doTextCommand_97 : decode (mB M_X7_doTextCommand) 97 = .ok (.ireturn, 1) := by decide +kernel
theorem dX7_doTextCommand_98 : decode (mB M_X7_doTextCommand) 98 = .ok (.aload_n 0, 1) := by decide +kernel
theorem dX7_doTextCommand_99 : decode (mB M_X7_doTextCommand) 99 = .ok (.getfield 24, 3) := by decide +kernel
theorem dX7_doTextCommand_102 : decode (mB M_X7_doTextCommand) 102 = .ok (.aload_n 0, 1) := by decide +kernel
theorem dX7_doTextCommand_103 : decode (mB M_X7_doTextCommand) 103 = .ok (.getfield 15, 3) := by decide +kernel
theorem dX7_doTextCommand_106 : decode (mB M_X7_doTextCommand) 106 = .ok (.iload_n 1, 1) := by decide +kernel
theorem dX7_doTextCommand_107 : decode (mB M_X7_doTextCommand) 107 = .ok (.iconst 1, 1) := by decide +kernel
theorem dX7_doTextCommand_108 : decode (mB M_X7_doTextCommand) 108 = .ok (.iadd, 1) := by decide +kernel
theorem dX7_doTextCommand_109 : decode (mB M_X7_doTextCommand) 109 = .ok (.iconst 2, 1) := by decide +kernel
theorem dX7_doTextCommand_110 : decode (mB M_X7_doTextCommand) 110 = .ok (.invokevirtual 305, 3) := by decide +kernel
theorem dX7_doTextCommand_113 : decode (mB M_X7_doTextCommand) 113 = .ok (.aload_n 0, 1) := by decide +kernel
theorem dX7_doTextCommand_114 : decode (mB M_X7_doTextCommand) 114 = .ok (.getfield 15, 3) := by decide +kernel
theorem dX7_doTextCommand_117 : decode (mB M_X7_doTextCommand) 117 = .ok (.iload_n 1, 1) := by decide +kernel
theorem dX7_doTextCommand_118 : decode (mB M_X7_doTextCommand) 118 = .ok (.iconst 3, 1) := by decide +kernel
theorem dX7_doTextCommand_119 : decode (mB M_X7_doTextCommand) 119 = .ok (.iadd, 1) := by decide +kernel
theorem dX7_doTextCommand_120 : decode (mB M_X7_doTextCommand) 120 = .ok (.iconst 2, 1) := by decide +kernel
theorem dX7_doTextCommand_121 : decode (mB M_X7_doTextCommand) 121 = .ok (.invokevirtual 305, 3) := by decide +kernel
theorem dX7_doTextCommand_124 : decode (mB M_X7_doTextCommand) 124 = .ok (.invokevirtual 311, 3) := by decide +kernel
theorem dX7_doTextCommand_127 : decode (mB M_X7_doTextCommand) 127 = .ok (.ireturn, 1) := by decide +kernel
theorem dX7_doTextCommand_128 : decode (mB M_X7_doTextCommand) 128 = .ok (.aload_n 0, 1) := by decide +kernel
theorem dX7_doTextCommand_129 : decode (mB M_X7_doTextCommand) 129 = .ok (.getfield 24, 3) := by decide +kernel
theorem dX7_doTextCommand_132 : decode (mB M_X7_doTextCommand) 132 = .ok (.invokevirtual 314, 3) := by decide +kernel
theorem dX7_doTextCommand_135 : decode (mB M_X7_doTextCommand) 135 = .ok (.ireturn, 1) := by decide +kernel
theorem dX7_doTextCommand_136 : decode (mB M_X7_doTextCommand) 136 = .ok (.aload_n 0, 1) := by decide +kernel
theorem dX7_doTextCommand_137 : decode (mB M_X7_doTextCommand) 137 = .ok (.getfield 24, 3) := by decide +kernel
theorem dX7_doTextCommand_140 : decode (mB M_X7_doTextCommand) 140 = .ok (.aload_n 0, 1) := by decide +kernel
theorem dX7_doTextCommand_141 : decode (mB M_X7_doTextCommand) 141 = .ok (.getfield 15, 3) := by decide +kernel
theorem dX7_doTextCommand_144 : decode (mB M_X7_doTextCommand) 144 = .ok (.iload_n 1, 1) := by decide +kernel
theorem dX7_doTextCommand_145 : decode (mB M_X7_doTextCommand) 145 = .ok (.iconst 1, 1) := by decide +kernel
theorem dX7_doTextCommand_146 : decode (mB M_X7_doTextCommand) 146 = .ok (.iadd, 1) := by decide +kernel
theorem dX7_doTextCommand_147 : decode (mB M_X7_doTextCommand) 147 = .ok (.iconst 1, 1) := by decide +kernel
theorem dX7_doTextCommand_148 : decode (mB M_X7_doTextCommand) 148 = .ok (.invokevirtual 305, 3) := by decide +kernel
theorem dX7_doTextCommand_151 : decode (mB M_X7_doTextCommand) 151 = .ok (.invokevirtual 317, 3) := by decide +kernel
theorem dX7_doTextCommand_154 : decode (mB M_X7_doTextCommand) 154 = .ok (.ireturn, 1) := by decide +kernel
theorem dX7_doTextCommand_155 : decode (mB M_X7_doTextCommand) 155 = .ok (.aload_n 0, 1) := by decide +kernel
theorem dX7_doTextCommand_156 : decode (mB M_X7_doTextCommand) 156 = .ok (.getfield 24, 3) := by decide +kernel
theorem dX7_doTextCommand_159 : decode (mB M_X7_doTextCommand) 159 = .ok (.invokevirtual 320, 3) := by decide +kernel
theorem dX7_doTextCommand_162 : decode (mB M_X7_doTextCommand) 162 = .ok (.ireturn, 1) := by decide +kernel
theorem dX7_doTextCommand_163 : decode (mB M_X7_doTextCommand) 163 = .ok (.aload_n 0, 1) := by decide +kernel
theorem dX7_doTextCommand_164 : decode (mB M_X7_doTextCommand) 164 = .ok (.getfield 24, 3) := by decide +kernel
theorem dX7_doTextCommand_167 : decode (mB M_X7_doTextCommand) 167 = .ok (.aload_n 0, 1) := by decide +kernel
theorem dX7_doTextCommand_168 : decode (mB M_X7_doTextCommand) 168 = .ok (.getfield 15, 3) := by decide +kernel
theorem dX7_doTextCommand_171 : decode (mB M_X7_doTextCommand) 171 = .ok (.iload_n 1, 1) := by decide +kernel
theorem dX7_doTextCommand_172 : decode (mB M_X7_doTextCommand) 172 = .ok (.iconst 1, 1) := by decide +kernel
theorem dX7_doTextCommand_173 : decode (mB M_X7_doTextCommand) 173 = .ok (.iadd, 1) := by decide +kernel
theorem dX7_doTextCommand_174 : decode (mB M_X7_doTextCommand) 174 = .ok (.iconst 1, 1) := by decide +kernel
theorem dX7_doTextCommand_175 : decode (mB M_X7_doTextCommand) 175 = .ok (.invokevirtual 305, 3) := by decide +kernel
theorem dX7_doTextCommand_178 : decode (mB M_X7_doTextCommand) 178 = .ok (.invokevirtual 323, 3) := by decide +kernel
theorem dX7_doTextCommand_181 : decode (mB M_X7_doTextCommand) 181 = .ok (.ireturn, 1) := by decide +kernel
theorem dX7_doTextCommand_182 : decode (mB M_X7_doTextCommand) 182 = .ok (.iconst 0, 1) := by decide +kernel
theorem dX7_doTextCommand_183 : decode (mB M_X7_doTextCommand) 183 = .ok (.ireturn, 1) := by decide +kernel
def b_X7_doTextCommand_0 (v0 : Nat) (v1 : Int32) (h : HP) : Option (Int32 × HP) :=
  (gR 7 0 h v0).bind fun x1 => (f_X4_signAt h x1 v1).bind fun y2 => if y2 = 99 then (gR 7 1 h v0).bind fun x4 => (gR 7 0 h v0).bind fun x5 => (f_X4_digitsAt h x5 (v1 + 1) 1).bind fun y6 => (f_X3_tryClose h x4 y6).bind fun y7 => (bz y7.1).bind fun x8 => some (x8, y7.2) else if y2 = 102 then (gR 7 1 h v0).bind fun x10 => (f_X3_tryFlush h x10).bind fun y11 => (bz y11.1).bind fun x12 => some (x12, y11.2) else if y2 = 109 then (gR 7 1 h v0).bind fun x14 => (gR 7 0 h v0).bind fun x15 => (f_X4_digitsAt h x15 (v1 + 1) 1).bind fun y16 => (f_X3_tryMerge h x14 y16).bind fun y17 => (bz y17.1).bind fun x18 => some (x18, y17.2) else if y2 = 111 then (gR 7 1 h v0).bind fun x20 => (f_X3_tryOpen h x20).bind fun y21 => (bz y21.1).bind fun x22 => some (x22, y21.2) else if y2 = 112 then (gR 7 1 h v0).bind fun x24 => (gR 7 0 h v0).bind fun x25 => (f_X4_digitsAt h x25 (v1 + 1) 2).bind fun y26 => (gR 7 0 h v0).bind fun x27 => (f_X4_digitsAt h x27 (v1 + 3) 3).bind fun y28 => (f_X3_tryPut h x24 y26 y28).bind fun y29 => (bz y29.1).bind fun x30 => some (x30, y29.2) else if y2 = 120 then (gR 7 1 h v0).bind fun x32 => (gR 7 0 h v0).bind fun x33 => (f_X4_digitsAt h x33 (v1 + 1) 2).bind fun y34 => (gR 7 0 h v0).bind fun x35 => (f_X4_digitsAt h x35 (v1 + 3) 2).bind fun y36 => (f_X3_tryBury h x32 y34 y36).bind fun y37 => (bz y37.1).bind fun x38 => some (x38, y37.2) else some (0, h)
def f_X7_doTextCommand (h : HP) (v0 : Nat) (v1 : Int32) : Option (Int32 × HP) := (kO 7 h v0).bind fun _ => b_X7_doTextCommand_0 v0 v1 h
theorem w_X7_doTextCommand_0 {l : Launch} {X : SCR} {Q : PST} {bc bs : Nat} {res : Int32 × HP} {h : HP} (hQ : ∀ sz', Q (.inl (some (.int res.1))) res.2 sz') {v0 : Nat} {v1 : Int32} {sz : Nat} (hf : b_X7_doTextCommand_0 v0 v1 h  = some res) : SP l X M_X7_doTextCommand 0 [(0, .ref v0), (1, .int v1)] [] h sz bc bs Q := by
  rw [b_X7_doTextCommand_0] at hf
  refine sp_aload_n (pc := 0) dX7_doTextCommand_0 0 rfl ?_
  obtain ⟨x1, ex1, hf⟩ := ob hf
  refine sp_gR (pc := 1) fl_RX7_15 dX7_doTextCommand_1 ex1 ?_
  refine sp_iload_n (pc := 4) dX7_doTextCommand_4 1 rfl ?_
  obtain ⟨y2, ey2, hf⟩ := ob hf
  obtain ⟨fsy2, hoy2⟩ := o_X4_signAt ey2
  refine sp_callVi (pc := 5) (z := M_X4_signAt) (As := [.int v1]) (b := x1) (bc2 := bc) (bs2 := bs) (m_X4_signAt (Q := _) (fun sz => ⟨y2, rfl, ?_⟩) ey2) rfl dX7_doTextCommand_5 hoy2 rfl rfl ck_X7_doTextCommand_302 (Nat.le_of_ble_eq_true rfl) rfl rfl rfl
  by_cases c3 : y2 = 99
  · rw [if_pos c3] at hf
    refine sp_lookup (pc := 8) (off := 155) (tgt := 163) dX7_doTextCommand_8 (by decide) (by rw [c3]; rfl) (by decide) ?_
    refine sp_aload_n (pc := 163) dX7_doTextCommand_163 0 rfl ?_
    obtain ⟨x4, ex4, hf⟩ := ob hf
    refine sp_gR (pc := 164) fl_RX7_24 dX7_doTextCommand_164 ex4 ?_
    refine sp_aload_n (pc := 167) dX7_doTextCommand_167 0 rfl ?_
    obtain ⟨x5, ex5, hf⟩ := ob hf
    refine sp_gR (pc := 168) fl_RX7_15 dX7_doTextCommand_168 ex5 ?_
    refine sp_iload_n (pc := 171) dX7_doTextCommand_171 1 rfl ?_
    refine sp_iconst (pc := 172) (v := 1) dX7_doTextCommand_172 (by decide) ?_
    refine sp_iadd (pc := 173) dX7_doTextCommand_173 ?_
    refine sp_iconst (pc := 174) (v := 1) dX7_doTextCommand_174 (by decide) ?_
    obtain ⟨y6, ey6, hf⟩ := ob hf
    obtain ⟨fsy6, hoy6⟩ := o_X4_digitsAt ey6
    refine sp_callVi (pc := 175) (z := M_X4_digitsAt) (As := [.int (v1 + 1), .int 1]) (b := x5) (bc2 := bc) (bs2 := bs) (m_X4_digitsAt (Q := _) (fun sz => ⟨y6, rfl, ?_⟩) ey6) rfl dX7_doTextCommand_175 hoy6 rfl rfl ck_X7_doTextCommand_305 (Nat.le_of_ble_eq_true rfl) rfl rfl rfl
    obtain ⟨y7, ey7, hf⟩ := ob hf
    obtain ⟨fsy7, hoy7⟩ := o_X3_tryClose ey7
    refine sp_callVi (pc := 178) (z := M_X3_tryClose) (As := [.int y6]) (b := x4) (bc2 := bc) (bs2 := bs) (m_X3_tryClose (Q := _) (fun sz => ⟨y7.1, rfl, ?_⟩) ey7) rfl dX7_doTextCommand_178 hoy7 rfl rfl ck_X7_doTextCommand_323 (Nat.le_of_ble_eq_true rfl) rfl rfl rfl
    obtain ⟨x8, ex8, hf⟩ := ob hf
    obtain rfl := Option.some.inj hf
    exact sp_iretZ (pc := 181) dX7_doTextCommand_181 rfl ex8 (hQ _)
  rw [if_neg c3] at hf
  by_cases c9 : y2 = 102
  · rw [if_pos c9] at hf
    refine sp_lookup (pc := 8) (off := 120) (tgt := 128) dX7_doTextCommand_8 (by decide) (by rw [c9]; rfl) (by decide) ?_
    refine sp_aload_n (pc := 128) dX7_doTextCommand_128 0 rfl ?_
    obtain ⟨x10, ex10, hf⟩ := ob hf
    refine sp_gR (pc := 129) fl_RX7_24 dX7_doTextCommand_129 ex10 ?_
    obtain ⟨y11, ey11, hf⟩ := ob hf
    obtain ⟨fsy11, hoy11⟩ := o_X3_tryFlush ey11
    refine sp_callVi (pc := 132) (z := M_X3_tryFlush) (As := []) (b := x10) (bc2 := bc) (bs2 := bs) (m_X3_tryFlush (Q := _) (fun sz => ⟨y11.1, rfl, ?_⟩) ey11) rfl dX7_doTextCommand_132 hoy11 rfl rfl ck_X7_doTextCommand_314 (Nat.le_of_ble_eq_true rfl) rfl rfl rfl
    obtain ⟨x12, ex12, hf⟩ := ob hf
    obtain rfl := Option.some.inj hf
    exact sp_iretZ (pc := 135) dX7_doTextCommand_135 rfl ex12 (hQ _)
  rw [if_neg c9] at hf
  by_cases c13 : y2 = 109
  · rw [if_pos c13] at hf
    refine sp_lookup (pc := 8) (off := 128) (tgt := 136) dX7_doTextCommand_8 (by decide) (by rw [c13]; rfl) (by decide) ?_
    refine sp_aload_n (pc := 136) dX7_doTextCommand_136 0 rfl ?_
    obtain ⟨x14, ex14, hf⟩ := ob hf
    refine sp_gR (pc := 137) fl_RX7_24 dX7_doTextCommand_137 ex14 ?_
    refine sp_aload_n (pc := 140) dX7_doTextCommand_140 0 rfl ?_
    obtain ⟨x15, ex15, hf⟩ := ob hf
    refine sp_gR (pc := 141) fl_RX7_15 dX7_doTextCommand_141 ex15 ?_
    refine sp_iload_n (pc := 144) dX7_doTextCommand_144 1 rfl ?_
    refine sp_iconst (pc := 145) (v := 1) dX7_doTextCommand_145 (by decide) ?_
    refine sp_iadd (pc := 146) dX7_doTextCommand_146 ?_
    refine sp_iconst (pc := 147) (v := 1) dX7_doTextCommand_147 (by decide) ?_
    obtain ⟨y16, ey16, hf⟩ := ob hf
    obtain ⟨fsy16, hoy16⟩ := o_X4_digitsAt ey16
    refine sp_callVi (pc := 148) (z := M_X4_digitsAt) (As := [.int (v1 + 1), .int 1]) (b := x15) (bc2 := bc) (bs2 := bs) (m_X4_digitsAt (Q := _) (fun sz => ⟨y16, rfl, ?_⟩) ey16) rfl dX7_doTextCommand_148 hoy16 rfl rfl ck_X7_doTextCommand_305 (Nat.le_of_ble_eq_true rfl) rfl rfl rfl
    obtain ⟨y17, ey17, hf⟩ := ob hf
    obtain ⟨fsy17, hoy17⟩ := o_X3_tryMerge ey17
    refine sp_callVi (pc := 151) (z := M_X3_tryMerge) (As := [.int y16]) (b := x14) (bc2 := bc) (bs2 := bs) (m_X3_tryMerge (Q := _) (fun sz => ⟨y17.1, rfl, ?_⟩) ey17) rfl dX7_doTextCommand_151 hoy17 rfl rfl ck_X7_doTextCommand_317 (Nat.le_of_ble_eq_true rfl) rfl rfl rfl
    obtain ⟨x18, ex18, hf⟩ := ob hf
    obtain rfl := Option.some.inj hf
    exact sp_iretZ (pc := 154) dX7_doTextCommand_154 rfl ex18 (hQ _)
  rw [if_neg c13] at hf
  by_cases c19 : y2 = 111
  · rw [if_pos c19] at hf
    refine sp_lookup (pc := 8) (off := 147) (tgt := 155) dX7_doTextCommand_8 (by decide) (by rw [c19]; rfl) (by decide) ?_
    refine sp_aload_n (pc := 155) dX7_doTextCommand_155 0 rfl ?_
    obtain ⟨x20, ex20, hf⟩ := ob hf
    refine sp_gR (pc := 156) fl_RX7_24 dX7_doTextCommand_156 ex20 ?_
    obtain ⟨y21, ey21, hf⟩ := ob hf
    obtain ⟨fsy21, hoy21⟩ := o_X3_tryOpen ey21
    refine sp_callVi (pc := 159) (z := M_X3_tryOpen) (As := []) (b := x20) (bc2 := bc) (bs2 := bs) (m_X3_tryOpen (Q := _) (fun sz => ⟨y21.1, rfl, ?_⟩) ey21) rfl dX7_doTextCommand_159 hoy21 rfl rfl ck_X7_doTextCommand_320 (Nat.le_of_ble_eq_true rfl) rfl rfl rfl
    obtain ⟨x22, ex22, hf⟩ := ob hf
    obtain rfl := Option.some.inj hf
    exact sp_iretZ (pc := 162) dX7_doTextCommand_162 rfl ex22 (hQ _)
  rw [if_neg c19] at hf
  by_cases c23 : y2 = 112
  · rw [if_pos c23] at hf
    refine sp_lookup (pc := 8) (off := 60) (tgt := 68) dX7_doTextCommand_8 (by decide) (by rw [c23]; rfl) (by decide) ?_
    refine sp_aload_n (pc := 68) dX7_doTextCommand_68 0 rfl ?_
    obtain ⟨x24, ex24, hf⟩ := ob hf
    refine sp_gR (pc := 69) fl_RX7_24 dX7_doTextCommand_69 ex24 ?_
    refine sp_aload_n (pc := 72) dX7_doTextCommand_72 0 rfl ?_
    obtain ⟨x25, ex25, hf⟩ := ob hf
    refine sp_gR (pc := 73) fl_RX7_15 dX7_doTextCommand_73 ex25 ?_
    refine sp_iload_n (pc := 76) dX7_doTextCommand_76 1 rfl ?_
    refine sp_iconst (pc := 77) (v := 1) dX7_doTextCommand_77 (by decide) ?_
    refine sp_iadd (pc := 78) dX7_doTextCommand_78 ?_
    refine sp_iconst (pc := 79) (v := 2) dX7_doTextCommand_79 (by decide) ?_
    obtain ⟨y26, ey26, hf⟩ := ob hf
    obtain ⟨fsy26, hoy26⟩ := o_X4_digitsAt ey26
    refine sp_callVi (pc := 80) (z := M_X4_digitsAt) (As := [.int (v1 + 1), .int 2]) (b := x25) (bc2 := bc) (bs2 := bs) (m_X4_digitsAt (Q := _) (fun sz => ⟨y26, rfl, ?_⟩) ey26) rfl dX7_doTextCommand_80 hoy26 rfl rfl ck_X7_doTextCommand_305 (Nat.le_of_ble_eq_true rfl) rfl rfl rfl
    refine sp_aload_n (pc := 83) dX7_doTextCommand_83 0 rfl ?_
    obtain ⟨x27, ex27, hf⟩ := ob hf
    refine sp_gR (pc := 84) fl_RX7_15 dX7_doTextCommand_84 ex27 ?_
    refine sp_iload_n (pc := 87) dX7_doTextCommand_87 1 rfl ?_
    refine sp_iconst (pc := 88) (v := 3) dX7_doTextCommand_88 (by decide) ?_
    refine sp_iadd (pc := 89) dX7_doTextCommand_89 ?_
    refine sp_iconst (pc := 90) (v := 3) dX7_doTextCommand_90 (by decide) ?_
    obtain ⟨y28, ey28, hf⟩ := ob hf
    obtain ⟨fsy28, hoy28⟩ := o_X4_digitsAt ey28
    refine sp_callVi (pc := 91) (z := M_X4_digitsAt) (As := [.int (v1 + 3), .int 3]) (b := x27) (bc2 := bc) (bs2 := bs) (m_X4_digitsAt (Q := _) (fun sz => ⟨y28, rfl, ?_⟩) ey28) rfl dX7_doTextCommand_91 hoy28 rfl rfl ck_X7_doTextCommand_305 (Nat.le_of_ble_eq_true rfl) rfl rfl rfl
    obtain ⟨y29, ey29, hf⟩ := ob hf
    obtain ⟨fsy29, hoy29⟩ := o_X3_tryPut ey29
    refine sp_callVi (pc := 94) (z := M_X3_tryPut) (As := [.int y26, .int y28]) (b := x24) (bc2 := bc) (bs2 := bs) (m_X3_tryPut (Q := _) (fun sz => ⟨y29.1, rfl, ?_⟩) ey29) rfl dX7_doTextCommand_94 hoy29 rfl rfl ck_X7_doTextCommand_308 (Nat.le_of_ble_eq_true rfl) rfl rfl rfl
    obtain ⟨x30, ex30, hf⟩ := ob hf
    obtain rfl := Option.some.inj hf
    exact sp_iretZ (pc := 97) dX7_doTextCommand_97 rfl ex30 (hQ _)
  rw [if_neg c23] at hf
  by_cases c31 : y2 = 120
  · rw [if_pos c31] at hf
    refine sp_lookup (pc := 8) (off := 90) (tgt := 98) dX7_doTextCommand_8 (by decide) (by rw [c31]; rfl) (by decide) ?_
    refine sp_aload_n (pc := 98) dX7_doTextCommand_98 0 rfl ?_
    obtain ⟨x32, ex32, hf⟩ := ob hf
    refine sp_gR (pc := 99) fl_RX7_24 dX7_doTextCommand_99 ex32 ?_
    refine sp_aload_n (pc := 102) dX7_doTextCommand_102 0 rfl ?_
    obtain ⟨x33, ex33, hf⟩ := ob hf
    refine sp_gR (pc := 103) fl_RX7_15 dX7_doTextCommand_103 ex33 ?_
    refine sp_iload_n (pc := 106) dX7_doTextCommand_106 1 rfl ?_
    refine sp_iconst (pc := 107) (v := 1) dX7_doTextCommand_107 (by decide) ?_
    refine sp_iadd (pc := 108) dX7_doTextCommand_108 ?_
    refine sp_iconst (pc := 109) (v := 2) dX7_doTextCommand_109 (by decide) ?_
    obtain ⟨y34, ey34, hf⟩ := ob hf
    obtain ⟨fsy34, hoy34⟩ := o_X4_digitsAt ey34
    refine sp_callVi (pc := 110) (z := M_X4_digitsAt) (As := [.int (v1 + 1), .int 2]) (b := x33) (bc2 := bc) (bs2 := bs) (m_X4_digitsAt (Q := _) (fun sz => ⟨y34, rfl, ?_⟩) ey34) rfl dX7_doTextCommand_110 hoy34 rfl rfl ck_X7_doTextCommand_305 (Nat.le_of_ble_eq_true rfl) rfl rfl rfl
    refine sp_aload_n (pc := 113) dX7_doTextCommand_113 0 rfl ?_
    obtain ⟨x35, ex35, hf⟩ := ob hf
    refine sp_gR (pc := 114) fl_RX7_15 dX7_doTextCommand_114 ex35 ?_
    refine sp_iload_n (pc := 117) dX7_doTextCommand_117 1 rfl ?_
    refine sp_iconst (pc := 118) (v := 3) dX7_doTextCommand_118 (by decide) ?_
    refine sp_iadd (pc := 119) dX7_doTextCommand_119 ?_
    refine sp_iconst (pc := 120) (v := 2) dX7_doTextCommand_120 (by decide) ?_
    obtain ⟨y36, ey36, hf⟩ := ob hf
    obtain ⟨fsy36, hoy36⟩ := o_X4_digitsAt ey36
    refine sp_callVi (pc := 121) (z := M_X4_digitsAt) (As := [.int (v1 + 3), .int 2]) (b := x35) (bc2 := bc) (bs2 := bs) (m_X4_digitsAt (Q := _) (fun sz => ⟨y36, rfl, ?_⟩) ey36) rfl dX7_doTextCommand_121 hoy36 rfl rfl ck_X7_doTextCommand_305 (Nat.le_of_ble_eq_true rfl) rfl rfl rfl
    obtain ⟨y37, ey37, hf⟩ := ob hf
    obtain ⟨fsy37, hoy37⟩ := o_X3_tryBury ey37
    refine sp_callVi (pc := 124) (z := M_X3_tryBury) (As := [.int y34, .int y36]) (b := x32) (bc2 := bc) (bs2 := bs) (m_X3_tryBury (Q := _) (fun sz => ⟨y37.1, rfl, ?_⟩) ey37) rfl dX7_doTextCommand_124 hoy37 rfl rfl ck_X7_doTextCommand_311 (Nat.le_of_ble_eq_true rfl) rfl rfl rfl
    obtain ⟨x38, ex38, hf⟩ := ob hf
    obtain rfl := Option.some.inj hf
    exact sp_iretZ (pc := 127) dX7_doTextCommand_127 rfl ex38 (hQ _)
  rw [if_neg c31] at hf
  refine sp_lookup (pc := 8) (off := 174) (tgt := 182) dX7_doTextCommand_8 (by decide) (lk_none (List.forall_mem_cons.mpr ⟨fun he => c3 (Int32.toInt_inj.mp (he.symm.trans (by decide))), List.forall_mem_cons.mpr ⟨fun he => c9 (Int32.toInt_inj.mp (he.symm.trans (by decide))), List.forall_mem_cons.mpr ⟨fun he => c13 (Int32.toInt_inj.mp (he.symm.trans (by decide))), List.forall_mem_cons.mpr ⟨fun he => c19 (Int32.toInt_inj.mp (he.symm.trans (by decide))), List.forall_mem_cons.mpr ⟨fun he => c23 (Int32.toInt_inj.mp (he.symm.trans (by decide))), List.forall_mem_cons.mpr ⟨fun he => c31 (Int32.toInt_inj.mp (he.symm.trans (by decide))), fun _ h => absurd h List.not_mem_nil⟩⟩⟩⟩⟩⟩)) (by decide) ?_
  refine sp_iconst (pc := 182) (v := 0) dX7_doTextCommand_182 (by decide) ?_
  obtain rfl := Option.some.inj hf
  exact sp_ireturn (pc := 183) dX7_doTextCommand_183 rfl rfl (hQ _)

theorem o_X7_doTextCommand {h : HP} {v0 : Nat} {v1 : Int32} {res : Int32 × HP} (hf : f_X7_doTextCommand h v0 v1 = some res) : ∃ fs, h v0 = some (.inr (7, fs)) := by
  obtain ⟨u, eu, -⟩ := ob hf
  exact kO_spec eu

theorem m_X7_doTextCommand {l : Launch} {Q : PST} {h : HP} {v0 : Nat} {v1 : Int32} {sz : Nat} {res : Int32 × HP} (hQ : ∀ sz', Q (.inl (some (.int res.1))) res.2 sz') (hf : f_X7_doTextCommand h v0 v1 = some res) : MM l M_X7_doTextCommand [.ref v0, .int v1] h sz Q := by
  obtain ⟨u, eu, hf⟩ := ob hf
  exact MM_of wok_X7_doTextCommand (by decide +kernel) (Nat.le_of_ble_eq_true rfl) ((w_X7_doTextCommand_0 hQ hf))

