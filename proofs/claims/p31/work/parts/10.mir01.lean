theorem dX3_canMerge_0 : decode (mB M_X3_canMerge) 0 = .ok (.aload_n 0, 1) := by decide +kernel
theorem dX3_canMerge_1 : decode (mB M_X3_canMerge) 1 = .ok (.iload_n 1, 1) := by decide +kernel
theorem dX3_canMerge_2 : decode (mB M_X3_canMerge) 2 = .ok (.invokevirtual 61, 3) := by decide +kernel
theorem dX3_canMerge_5 : decode (mB M_X3_canMerge) 5 = .ok (.ifCond .eq 13, 3) := by decide +kernel
theorem dX3_canMerge_8 : decode (mB M_X3_canMerge) 8 = .ok (.aload_n 0, 1) := by decide +kernel
theorem dX3_canMerge_9 : decode (mB M_X3_canMerge) 9 = .ok (.iload_n 1, 1) := by decide +kernel
theorem dX3_canMerge_10 : decode (mB M_X3_canMerge) 10 = .ok (.iconst 1, 1) := by decide +kernel
theorem dX3_canMerge_11 : decode (mB M_X3_canMerge) 11 = .ok (.iadd, 1) := by decide +kernel
theorem dX3_canMerge_12 : decode (mB M_X3_canMerge) 12 = .ok (.invokevirtual 61, 3) := by decide +kernel
theorem dX3_canMerge_15 : decode (mB M_X3_canMerge) 15 = .ok (.ifCond .ne 5, 3) := by decide +kernel
theorem dX3_canMerge_18 : decode (mB M_X3_canMerge) 18 = .ok (.iconst 0, 1) := by decide +kernel
theorem dX3_canMerge_19 : decode (mB M_X3_canMerge) 19 = .ok (.ireturn, 1) := by decide +kernel
theorem dX3_canMerge_20 : decode (mB M_X3_canMerge) 20 = .ok (.aload_n 0, 1) := by decide +kernel
theorem dX3_canMerge_21 : decode (mB M_X3_canMerge) 21 = .ok (.getfield 27, 3) := by decide +kernel
theorem dX3_canMerge_24 : decode (mB M_X3_canMerge) 24 = .ok (.invokevirtual 47, 3) := by decide +kernel
theorem dX3_canMerge_27 : decode (mB M_X3_canMerge) 27 = .ok (.aload_n 0, 1) := by decide +kernel
theorem dX3_canMerge_28 : decode (mB M_X3_canMerge) 28 = .ok (.iload_n 1, 1) := by decide +kernel
theorem dX3_canMerge_29 : decode (mB M_X3_canMerge) 29 = .ok (.invokevirtual 109, 3) := by decide +kernel
theorem dX3_canMerge_32 : decode (mB M_X3_canMerge) 32 = .ok (.isub, 1) := by decide +kernel
theorem dX3_canMerge_33 : decode (mB M_X3_canMerge) 33 = .ok (.aload_n 0, 1) := by decide +kernel
theorem dX3_canMerge_34 : decode (mB M_X3_canMerge) 34 = .ok (.iload_n 1, 1) := by decide +kernel
theorem dX3_canMerge_35 : decode (mB M_X3_canMerge) 35 = .ok (.iconst 1, 1) := by decide +kernel
theorem dX3_canMerge_36 : decode (mB M_X3_canMerge) 36 = .ok (.iadd, 1) := by decide +kernel
theorem dX3_canMerge_37 : decode (mB M_X3_canMerge) 37 = .ok (.invokevirtual 109, 3) := by decide +kernel
theorem dX3_canMerge_40 : decode (mB M_X3_canMerge) 40 = .ok (.isub, 1) := by decide +kernel
theorem dX3_canMerge_41 : decode (mB M_X3_canMerge) 41 = .ok (.istore_n 2, 1) := by decide +kernel
theorem dX3_canMerge_42 : decode (mB M_X3_canMerge) 42 = .ok (.iload_n 2, 1) := by decide +kernel
theorem dX3_canMerge_43 : decode (mB M_X3_canMerge) 43 = .ok (.aload_n 0, 1) := by decide +kernel
theorem dX3_canMerge_44 : decode (mB M_X3_canMerge) 44 = .ok (.getfield 18, 3) := by decide +kernel
theorem dX3_canMerge_47 : decode (mB M_X3_canMerge) 47 = .ok (.aload_n 0, 1) := by decide +kernel
theorem dX3_canMerge_48 : decode (mB M_X3_canMerge) 48 = .ok (.iload_n 1, 1) := by decide +kernel
theorem dX3_canMerge_49 : decode (mB M_X3_canMerge) 49 = .ok (.iload_n 1, 1) := by decide +kernel
theorem dX3_canMerge_50 : decode (mB M_X3_canMerge) 50 = .ok (.iconst 1, 1) := by decide +kernel
theorem dX3_canMerge_51 : decode (mB M_X3_canMerge) 51 = .ok (.iadd, 1) := by decide +kernel
theorem dX3_canMerge_52 : decode (mB M_X3_canMerge) 52 = .ok (.invokevirtual 112, 3) := by decide +kernel
theorem dX3_canMerge_55 : decode (mB M_X3_canMerge) 55 = .ok (.iadd, 1) := by decide +kernel
theorem dX3_canMerge_56 : decode (mB M_X3_canMerge) 56 = .ok (.bipush 48, 2) := by decide +kernel
theorem dX3_canMerge_58 : decode (mB M_X3_canMerge) 58 = .ok (.if_icmp .gt 7, 3) := by decide +kernel
theorem dX3_canMerge_61 : decode (mB M_X3_canMerge) 61 = .ok (.iconst 1, 1) := by decide +kernel
theorem dX3_canMerge_62 : decode (mB M_X3_canMerge) 62 = .ok (.goto 4, 3) := by decide +kernel
theorem dX3_canMerge_65 : decode (mB M_X3_canMerge) 65 = .ok (.iconst 0, 1) := by decide +kernel
theorem dX3_canMerge_66 : decode (mB M_X3_canMerge) 66 = .ok (.ireturn, 1) := by decide +kernel
def b_X3_canMerge_0 (v0 : Nat) (v1 : Int32) (h : HP) : Option (Int32 × HP) :=
  (f_X3_isRun h v0 v1).bind fun y1 => if y1 = 0 then some (0, h) else (f_X3_isRun h v0 (v1 + 1)).bind fun y3 => if y3 = 0 then some (0, h) else (gR 3 1 h v0).bind fun x5 => (f_X6_size h x5).bind fun y6 => (f_X3_sizeOf h v0 v1).bind fun y7 => (f_X3_sizeOf h v0 (v1 + 1)).bind fun y8 => (gR 3 0 h v0).bind fun x9 => (f_X0_clean h x9 v0 v1 (v1 + 1)).bind fun y10 => if 48 < (((y6 - y7) - y8) + y10.1) then some (0, y10.2) else some (1, y10.2)
def f_X3_canMerge (h : HP) (v0 : Nat) (v1 : Int32) : Option (Int32 × HP) := (kO 3 h v0).bind fun _ => b_X3_canMerge_0 v0 v1 h
theorem w_X3_canMerge_0 {l : Launch} {X : SCR} {Q : PST} {bc bs : Nat} {res : Int32 × HP} {h : HP} (hQ : ∀ sz', Q (.inl (some (.int res.1))) res.2 sz') {v0 : Nat} {v1 : Int32} {sz : Nat} (hf : b_X3_canMerge_0 v0 v1 h  = some res) : SP l X M_X3_canMerge 0 [(0, .ref v0), (1, .int v1)] [] h sz bc bs Q := by
  rw [b_X3_canMerge_0] at hf
  refine sp_aload_n (pc := 0) dX3_canMerge_0 0 rfl ?_
  refine sp_iload_n (pc := 1) dX3_canMerge_1 1 rfl ?_
  obtain ⟨y1, ey1, hf⟩ := ob hf
  obtain ⟨fsy1, hoy1⟩ := o_X3_isRun ey1
  refine sp_callVi (pc := 2) (z := M_X3_isRun) (As := [.int v1]) (b := v0) (bc2 := bc) (bs2 := bs) (m_X3_isRun (Q := _) (fun sz => ⟨y1, rfl, ?_⟩) ey1) rfl dX3_canMerge_2 hoy1 rfl rfl ck_X3_canMerge_61 (Nat.le_of_ble_eq_true rfl) rfl rfl rfl
  refine sp_if_eq (pc := 5) (tgt := 18) dX3_canMerge_5 (by decide) (fun c2 => ?_) (fun c2 => ?_)
  · rw [if_pos c2] at hf
    refine sp_iconst (pc := 18) (v := 0) dX3_canMerge_18 (by decide) ?_
    obtain rfl := Option.some.inj hf
    exact sp_ireturn (pc := 19) dX3_canMerge_19 rfl rfl (hQ _)
  · rw [if_neg c2] at hf
    refine sp_aload_n (pc := 8) dX3_canMerge_8 0 rfl ?_
    refine sp_iload_n (pc := 9) dX3_canMerge_9 1 rfl ?_
    refine sp_iconst (pc := 10) (v := 1) dX3_canMerge_10 (by decide) ?_
    refine sp_iadd (pc := 11) dX3_canMerge_11 ?_
    obtain ⟨y3, ey3, hf⟩ := ob hf
    obtain ⟨fsy3, hoy3⟩ := o_X3_isRun ey3
    refine sp_callVi (pc := 12) (z := M_X3_isRun) (As := [.int (v1 + 1)]) (b := v0) (bc2 := bc) (bs2 := bs) (m_X3_isRun (Q := _) (fun sz => ⟨y3, rfl, ?_⟩) ey3) rfl dX3_canMerge_12 hoy3 rfl rfl ck_X3_canMerge_61 (Nat.le_of_ble_eq_true rfl) rfl rfl rfl
    refine sp_if_ne (pc := 15) (tgt := 20) dX3_canMerge_15 (by decide) (fun c4 => ?_) (fun c4 => ?_)
    · rw [if_neg c4] at hf
      refine sp_aload_n (pc := 20) dX3_canMerge_20 0 rfl ?_
      obtain ⟨x5, ex5, hf⟩ := ob hf
      refine sp_gR (pc := 21) fl_RX3_27 dX3_canMerge_21 ex5 ?_
      obtain ⟨y6, ey6, hf⟩ := ob hf
      obtain ⟨fsy6, hoy6⟩ := o_X6_size ey6
      refine sp_callVi (pc := 24) (z := M_X6_size) (As := []) (b := x5) (bc2 := bc) (bs2 := bs) (m_X6_size (Q := _) (fun sz => ⟨y6, rfl, ?_⟩) ey6) rfl dX3_canMerge_24 hoy6 rfl rfl ck_X3_canMerge_47 (Nat.le_of_ble_eq_true rfl) rfl rfl rfl
      refine sp_aload_n (pc := 27) dX3_canMerge_27 0 rfl ?_
      refine sp_iload_n (pc := 28) dX3_canMerge_28 1 rfl ?_
      obtain ⟨y7, ey7, hf⟩ := ob hf
      obtain ⟨fsy7, hoy7⟩ := o_X3_sizeOf ey7
      refine sp_callVi (pc := 29) (z := M_X3_sizeOf) (As := [.int v1]) (b := v0) (bc2 := bc) (bs2 := bs) (m_X3_sizeOf (Q := _) (fun sz => ⟨y7, rfl, ?_⟩) ey7) rfl dX3_canMerge_29 hoy7 rfl rfl ck_X3_canMerge_109 (Nat.le_of_ble_eq_true rfl) rfl rfl rfl
      refine sp_isub (pc := 32) dX3_canMerge_32 ?_
      refine sp_aload_n (pc := 33) dX3_canMerge_33 0 rfl ?_
      refine sp_iload_n (pc := 34) dX3_canMerge_34 1 rfl ?_
      refine sp_iconst (pc := 35) (v := 1) dX3_canMerge_35 (by decide) ?_
      refine sp_iadd (pc := 36) dX3_canMerge_36 ?_
      obtain ⟨y8, ey8, hf⟩ := ob hf
      obtain ⟨fsy8, hoy8⟩ := o_X3_sizeOf ey8
      refine sp_callVi (pc := 37) (z := M_X3_sizeOf) (As := [.int (v1 + 1)]) (b := v0) (bc2 := bc) (bs2 := bs) (m_X3_sizeOf (Q := _) (fun sz => ⟨y8, rfl, ?_⟩) ey8) rfl dX3_canMerge_37 hoy8 rfl rfl ck_X3_canMerge_109 (Nat.le_of_ble_eq_true rfl) rfl rfl rfl
      refine sp_isub (pc := 40) dX3_canMerge_40 ?_
      refine sp_istore_n (pc := 41) (lv' := [(2, .int ((y6 - y7) - y8)), (0, .ref v0), (1, .int v1)]) dX3_canMerge_41 (by decide) rfl ?_
      refine sp_iload_n (pc := 42) dX3_canMerge_42 0 rfl ?_
      refine sp_aload_n (pc := 43) dX3_canMerge_43 1 rfl ?_
      obtain ⟨x9, ex9, hf⟩ := ob hf
      refine sp_gR (pc := 44) fl_RX3_18 dX3_canMerge_44 ex9 ?_
      refine sp_aload_n (pc := 47) dX3_canMerge_47 1 rfl ?_
      refine sp_iload_n (pc := 48) dX3_canMerge_48 2 rfl ?_
      refine sp_iload_n (pc := 49) dX3_canMerge_49 2 rfl ?_
      refine sp_iconst (pc := 50) (v := 1) dX3_canMerge_50 (by decide) ?_
      refine sp_iadd (pc := 51) dX3_canMerge_51 ?_
      obtain ⟨y10, ey10, hf⟩ := ob hf
      obtain ⟨fsy10, hoy10⟩ := o_X0_clean ey10
      refine sp_callVi (pc := 52) (z := M_X0_clean) (As := [.ref v0, .int v1, .int (v1 + 1)]) (b := x9) (bc2 := bc) (bs2 := bs) (m_X0_clean (Q := _) (fun sz => ⟨y10.1, rfl, ?_⟩) ey10) rfl dX3_canMerge_52 hoy10 rfl rfl ck_X3_canMerge_112 (Nat.le_of_ble_eq_true rfl) rfl rfl rfl
      refine sp_iadd (pc := 55) dX3_canMerge_55 ?_
      refine sp_bipush (pc := 56) (v := 48) dX3_canMerge_56 (by decide) ?_
      refine sp_icmp_gt (pc := 58) (tgt := 65) dX3_canMerge_58 (by decide) (fun c11 => ?_) (fun c11 => ?_)
      · rw [if_pos c11] at hf
        refine sp_iconst (pc := 65) (v := 0) dX3_canMerge_65 (by decide) ?_
        obtain rfl := Option.some.inj hf
        exact sp_ireturn (pc := 66) dX3_canMerge_66 rfl rfl (hQ _)
      · rw [if_neg c11] at hf
        refine sp_iconst (pc := 61) (v := 1) dX3_canMerge_61 (by decide) ?_
        refine sp_goto (pc := 62) (tgt := 66) dX3_canMerge_62 (by decide) ?_
        obtain rfl := Option.some.inj hf
        exact sp_ireturn (pc := 66) dX3_canMerge_66 rfl rfl (hQ _)
    · rw [if_pos c4] at hf
      refine sp_iconst (pc := 18) (v := 0) dX3_canMerge_18 (by decide) ?_
      obtain rfl := Option.some.inj hf
      exact sp_ireturn (pc := 19) dX3_canMerge_19 rfl rfl (hQ _)

theorem o_X3_canMerge {h : HP} {v0 : Nat} {v1 : Int32} {res : Int32 × HP} (hf : f_X3_canMerge h v0 v1 = some res) : ∃ fs, h v0 = some (.inr (3, fs)) := by
  obtain ⟨u, eu, -⟩ := ob hf
  exact kO_spec eu

theorem m_X3_canMerge {l : Launch} {Q : PST} {h : HP} {v0 : Nat} {v1 : Int32} {sz : Nat} {res : Int32 × HP} (hQ : ∀ sz', Q (.inl (some (.int res.1))) res.2 sz') (hf : f_X3_canMerge h v0 v1 = some res) : MM l M_X3_canMerge [.ref v0, .int v1] h sz Q := by
  obtain ⟨u, eu, hf⟩ := ob hf
  exact MM_of wok_X3_canMerge (by decide +kernel) (Nat.le_of_ble_eq_true rfl) ((w_X3_canMerge_0 hQ hf))

theorem dX3_savedBy_0 : decode (mB M_X3_savedBy) 0 = .ok (.aload_n 0, 1) := by decide +kernel
theorem dX3_savedBy_1 : decode (mB M_X3_savedBy) 1 = .ok (.iload_n 1, 1) := by decide +kernel
theorem dX3_savedBy_2 : decode (mB M_X3_savedBy) 2 = .ok (.invokevirtual 109, 3) := by decide +kernel
theorem dX3_savedBy_5 : decode (mB M_X3_savedBy) 5 = .ok (.aload_n 0, 1) := by decide +kernel
theorem dX3_savedBy_6 : decode (mB M_X3_savedBy) 6 = .ok (.iload_n 1, 1) := by decide +kernel
theorem dX3_savedBy_7 : decode (mB M_X3_savedBy) 7 = .ok (.iconst 1, 1) := by decide +kernel
theorem dX3_savedBy_8 : decode (mB M_X3_savedBy) 8 = .ok (.iadd, 1) := by decide +kernel
theorem dX3_savedBy_9 : decode (mB M_X3_savedBy) 9 = .ok (.invokevirtual 109, 3) := by decide +kernel
theorem dX3_savedBy_12 : decode (mB M_X3_savedBy) 12 = .ok (.iadd, 1) := by decide +kernel
theorem dX3_savedBy_13 : decode (mB M_X3_savedBy) 13 = .ok (.aload_n 0, 1) := by decide +kernel
theorem dX3_savedBy_14 : decode (mB M_X3_savedBy) 14 = .ok (.getfield 18, 3) := by decide +kernel
theorem dX3_savedBy_17 : decode (mB M_X3_savedBy) 17 = .ok (.aload_n 0, 1) := by decide +kernel
theorem dX3_savedBy_18 : decode (mB M_X3_savedBy) 18 = .ok (.iload_n 1, 1) := by decide +kernel
theorem dX3_savedBy_19 : decode (mB M_X3_savedBy) 19 = .ok (.iload_n 1, 1) := by decide +kernel
theorem dX3_savedBy_20 : decode (mB M_X3_savedBy) 20 = .ok (.iconst 1, 1) := by decide +kernel
theorem dX3_savedBy_21 : decode (mB M_X3_savedBy) 21 = .ok (.iadd, 1) := by decide +kernel
theorem dX3_savedBy_22 : decode (mB M_X3_savedBy) 22 = .ok (.invokevirtual 112, 3) := by decide +kernel
theorem dX3_savedBy_25 : decode (mB M_X3_savedBy) 25 = .ok (.isub, 1) := by decide +kernel
theorem dX3_savedBy_26 : decode (mB M_X3_savedBy) 26 = .ok (.ireturn, 1) := by decide +kernel
def b_X3_savedBy_0 (v0 : Nat) (v1 : Int32) (h : HP) : Option (Int32 × HP) :=
  (f_X3_sizeOf h v0 v1).bind fun y1 => (f_X3_sizeOf h v0 (v1 + 1)).bind fun y2 => (gR 3 0 h v0).bind fun x3 => (f_X0_clean h x3 v0 v1 (v1 + 1)).bind fun y4 => some ((y1 + y2) - y4.1, y4.2)
def f_X3_savedBy (h : HP) (v0 : Nat) (v1 : Int32) : Option (Int32 × HP) := (kO 3 h v0).bind fun _ => b_X3_savedBy_0 v0 v1 h
theorem w_X3_savedBy_0 {l : Launch} {X : SCR} {Q : PST} {bc bs : Nat} {res : Int32 × HP} {h : HP} (hQ : ∀ sz', Q (.inl (some (.int res.1))) res.2 sz') {v0 : Nat} {v1 : Int32} {sz : Nat} (hf : b_X3_savedBy_0 v0 v1 h  = some res) : SP l X M_X3_savedBy 0 [(0, .ref v0), (1, .int v1)] [] h sz bc bs Q := by
  rw [b_X3_savedBy_0] at hf
  refine sp_aload_n (pc := 0) dX3_savedBy_0 0 rfl ?_
  refine sp_iload_n (pc := 1) dX3_savedBy_1 1 rfl ?_
  obtain ⟨y1, ey1, hf⟩ := ob hf
  obtain ⟨fsy1, hoy1⟩ := o_X3_sizeOf ey1
  refine sp_callVi (pc := 2) (z := M_X3_sizeOf) (As := [.int v1]) (b := v0) (bc2 := bc) (bs2 := bs) (m_X3_sizeOf (Q := _) (fun sz => ⟨y1, rfl, ?_⟩) ey1) rfl dX3_savedBy_2 hoy1 rfl rfl ck_X3_savedBy_109 (Nat.le_of_ble_eq_true rfl) rfl rfl rfl
  refine sp_aload_n (pc := 5) dX3_savedBy_5 0 rfl ?_
  refine sp_iload_n (pc := 6) dX3_savedBy_6 1 rfl ?_
  refine sp_iconst (pc := 7) (v := 1) dX3_savedBy_7 (by decide) ?_
  refine sp_iadd (pc := 8) dX3_savedBy_8 ?_
  obtain ⟨y2, ey2, hf⟩ := ob hf
  obtain ⟨fsy2, hoy2⟩ := o_X3_sizeOf ey2
  refine sp_callVi (pc := 9) (z := M_X3_sizeOf) (As := [.int (v1 + 1)]) (b := v0) (bc2 := bc) (bs2 := bs) (m_X3_sizeOf (Q := _) (fun sz => ⟨y2, rfl, ?_⟩) ey2) rfl dX3_savedBy_9 hoy2 rfl rfl ck_X3_savedBy_109 (Nat.le_of_ble_eq_true rfl) rfl rfl rfl
  refine sp_iadd (pc := 12) dX3_savedBy_12 ?_
  refine sp_aload_n (pc := 13) dX3_savedBy_13 0 rfl ?_
  obtain ⟨x3, ex3, hf⟩ := ob hf
  refine sp_gR (pc := 14) fl_RX3_18 dX3_savedBy_14 ex3 ?_
  refine sp_aload_n (pc := 17) dX3_savedBy_17 0 rfl ?_
  refine sp_iload_n (pc := 18) dX3_savedBy_18 1 rfl ?_
  refine sp_iload_n (pc := 19) dX3_savedBy_19 1 rfl ?_
  refine sp_iconst (pc := 20) (v := 1) dX3_savedBy_20 (by decide) ?_
  refine sp_iadd (pc := 21) dX3_savedBy_21 ?_
  obtain ⟨y4, ey4, hf⟩ := ob hf
  obtain ⟨fsy4, hoy4⟩ := o_X0_clean ey4
  refine sp_callVi (pc := 22) (z := M_X0_clean) (As := [.ref v0, .int v1, .int (v1 + 1)]) (b := x3) (bc2 := bc) (bs2 := bs) (m_X0_clean (Q := _) (fun sz => ⟨y4.1, rfl, ?_⟩) ey4) rfl dX3_savedBy_22 hoy4 rfl rfl ck_X3_savedBy_112 (Nat.le_of_ble_eq_true rfl) rfl rfl rfl
  refine sp_isub (pc := 25) dX3_savedBy_25 ?_
  obtain rfl := Option.some.inj hf
  exact sp_ireturn (pc := 26) dX3_savedBy_26 rfl rfl (hQ _)

theorem o_X3_savedBy {h : HP} {v0 : Nat} {v1 : Int32} {res : Int32 × HP} (hf : f_X3_savedBy h v0 v1 = some res) : ∃ fs, h v0 = some (.inr (3, fs)) := by
  obtain ⟨u, eu, -⟩ := ob hf
  exact kO_spec eu

theorem m_X3_savedBy {l : Launch} {Q : PST} {h : HP} {v0 : Nat} {v1 : Int32} {sz : Nat} {res : Int32 × HP} (hQ : ∀ sz', Q (.inl (some (.int res.1))) res.2 sz') (hf : f_X3_savedBy h v0 v1 = some res) : MM l M_X3_savedBy [.ref v0, .int v1] h sz Q := by
  obtain ⟨u, eu, hf⟩ := ob hf
  exact MM_of wok_X3_savedBy (by decide +kernel) (Nat.le_of_ble_eq_true rfl) ((w_X3_savedBy_0 hQ hf))

theorem dX3_addWrite_0 : decode (mB M_X3_addWrite) 0 = .ok (.aload_n 0, 1) := by decide +kernel
theorem dX3_addWrite_1 : decode (mB M_X3_addWrite) 1 = .ok (.dup, 1) := by decide +kernel
theorem dX3_addWrite_2 : decode (mB M_X3_addWrite) 2 = .ok (.getfield 41, 3) := by decide +kernel
theorem dX3_addWrite_5 : decode (mB M_X3_addWrite) 5 = .ok (.iconst 1, 1) := by decide +kernel
theorem dX3_addWrite_6 : decode (mB M_X3_addWrite) 6 = .ok (.iadd, 1) := by decide +kernel
theorem dX3_addWrite_7 : decode (mB M_X3_addWrite) 7 = .ok (.putfield 41, 3) := by decide +kernel
theorem dX3_addWrite_10 : decode (mB M_X3_addWrite) 10 = .ok (.aload_n 0, 1) := by decide +kernel
theorem dX3_addWrite_11 : decode (mB M_X3_addWrite) 11 = .ok (.getfield 27, 3) := by decide +kernel
theorem dX3_addWrite_14 : decode (mB M_X3_addWrite) 14 = .ok (.aload_n 0, 1) := by decide +kernel
theorem dX3_addWrite_15 : decode (mB M_X3_addWrite) 15 = .ok (.getfield 41, 3) := by decide +kernel
theorem dX3_addWrite_18 : decode (mB M_X3_addWrite) 18 = .ok (.iload_n 1, 1) := by decide +kernel
theorem dX3_addWrite_19 : decode (mB M_X3_addWrite) 19 = .ok (.iload_n 2, 1) := by decide +kernel
theorem dX3_addWrite_20 : decode (mB M_X3_addWrite) 20 = .ok (.iload_n 3, 1) := by decide +kernel
theorem dX3_addWrite_21 : decode (mB M_X3_addWrite) 21 = .ok (.invokevirtual 118, 3) := by decide +kernel
theorem dX3_addWrite_24 : decode (mB M_X3_addWrite) 24 = .ok (.return_, 1) := by decide +kernel
def b_X3_addWrite_0 (v0 : Nat) (v1 : Int32) (v2 : Int32) (v3 : Int32) (h : HP) : Option (HP) :=
  (gI 3 6 h v0).bind fun x1 => (pI 3 6 h v0 (x1 + 1)).bind fun h2 => (gR 3 1 h2 v0).bind fun x3 => (gI 3 6 h2 v0).bind fun x4 => (f_X6_add h2 x3 x4 v1 v2 v3).bind fun y5 => some y5
def f_X3_addWrite (h : HP) (v0 : Nat) (v1 : Int32) (v2 : Int32) (v3 : Int32) : Option (HP) := (kO 3 h v0).bind fun _ => b_X3_addWrite_0 v0 v1 v2 v3 h
theorem w_X3_addWrite_0 {l : Launch} {X : SCR} {Q : PST} {bc bs : Nat} {res : HP} {h : HP} (hQ : ∀ sz', Q (.inl none) res sz') {v0 : Nat} {v1 : Int32} {v2 : Int32} {v3 : Int32} {sz : Nat} (hf : b_X3_addWrite_0 v0 v1 v2 v3 h  = some res) : SP l X M_X3_addWrite 0 [(0, .ref v0), (1, .int v1), (2, .int v2), (3, .int v3)] [] h sz bc bs Q := by
  rw [b_X3_addWrite_0] at hf
  refine sp_aload_n (pc := 0) dX3_addWrite_0 0 rfl ?_
  refine sp_dup (pc := 1) dX3_addWrite_1 rfl ?_
  obtain ⟨x1, ex1, hf⟩ := ob hf
  refine sp_gI (pc := 2) fl_RX3_41 dX3_addWrite_2 ex1 ?_
  refine sp_iconst (pc := 5) (v := 1) dX3_addWrite_5 (by decide) ?_
  refine sp_iadd (pc := 6) dX3_addWrite_6 ?_
  obtain ⟨h2, eh2, hf⟩ := ob hf
  refine sp_pI (pc := 7) pf_RX3_41 dX3_addWrite_7 eh2 (fun sz => ?_)
  refine sp_aload_n (pc := 10) dX3_addWrite_10 0 rfl ?_
  obtain ⟨x3, ex3, hf⟩ := ob hf
  refine sp_gR (pc := 11) fl_RX3_27 dX3_addWrite_11 ex3 ?_
  refine sp_aload_n (pc := 14) dX3_addWrite_14 0 rfl ?_
  obtain ⟨x4, ex4, hf⟩ := ob hf
  refine sp_gI (pc := 15) fl_RX3_41 dX3_addWrite_15 ex4 ?_
  refine sp_iload_n (pc := 18) dX3_addWrite_18 1 rfl ?_
  refine sp_iload_n (pc := 19) dX3_addWrite_19 2 rfl ?_
  refine sp_iload_n (pc := 20) dX3_addWrite_20 3 rfl ?_
  obtain ⟨y5, ey5, hf⟩ := ob hf
  obtain ⟨fsy5, hoy5⟩ := o_X6_add ey5
  refine sp_callVv (pc := 21) (z := M_X6_add) (As := [.int x4, .int v1, .int v2, .int v3]) (b := x3) (bc2 := bc) (bs2 := bs) (m_X6_add (Q := _) (fun sz => ⟨(), rfl, ?_⟩) ey5) rfl dX3_addWrite_21 hoy5 rfl rfl ck_X3_addWrite_118 (Nat.le_of_ble_eq_true rfl) rfl rfl rfl
  obtain rfl := Option.some.inj hf
  exact sp_return (pc := 24) dX3_addWrite_24 rfl (hQ _)

theorem o_X3_addWrite {h : HP} {v0 : Nat} {v1 : Int32} {v2 : Int32} {v3 : Int32} {res : HP} (hf : f_X3_addWrite h v0 v1 v2 v3 = some res) : ∃ fs, h v0 = some (.inr (3, fs)) := by
  obtain ⟨u, eu, -⟩ := ob hf
  exact kO_spec eu

theorem m_X3_addWrite {l : Launch} {Q : PST} {h : HP} {v0 : Nat} {v1 : Int32} {v2 : Int32} {v3 : Int32} {sz : Nat} {res : HP} (hQ : ∀ sz', Q (.inl none) res sz') (hf : f_X3_addWrite h v0 v1 v2 v3 = some res) : MM l M_X3_addWrite [.ref v0, .int v1, .int v2, .int v3] h sz Q := by
  obtain ⟨u, eu, hf⟩ := ob hf
  exact MM_of wok_X3_addWrite (by decide +kernel) (Nat.le_of_ble_eq_true rfl) ((w_X3_addWrite_0 hQ hf))

theorem dX3_addEye_0 : decode (mB M_X3_addEye) 0 = .ok (.aload_n 0, 1) := by decide +kernel
theorem dX3_addEye_1 : decode (mB M_X3_addEye) 1 = .ok (.getfield 38, 3) := by decide +kernel
theorem dX3_addEye_4 : decode (mB M_X3_addEye) 4 = .ok (.aload_n 0, 1) := by decide +kernel
theorem dX3_addEye_5 : decode (mB M_X3_addEye) 5 = .ok (.getfield 15, 3) := by decide +kernel
theorem dX3_addEye_8 : decode (mB M_X3_addEye) 8 = .ok (.arraylength, 1) := by decide +kernel
theorem dX3_addEye_9 : decode (mB M_X3_addEye) 9 = .ok (.if_icmp .ge 26, 3) := by decide +kernel
theorem dX3_addEye_12 : decode (mB M_X3_addEye) 12 = .ok (.aload_n 0, 1) := by decide +kernel
theorem dX3_addEye_13 : decode (mB M_X3_addEye) 13 = .ok (.getfield 15, 3) := by decide +kernel
theorem dX3_addEye_16 : decode (mB M_X3_addEye) 16 = .ok (.aload_n 0, 1) := by decide +kernel
theorem dX3_addEye_17 : decode (mB M_X3_addEye) 17 = .ok (.getfield 38, 3) := by decide +kernel
theorem dX3_addEye_20 : decode (mB M_X3_addEye) 20 = .ok (.aload_n 0, 1) := by decide +kernel
theorem dX3_addEye_21 : decode (mB M_X3_addEye) 21 = .ok (.getfield 41, 3) := by decide +kernel
theorem dX3_addEye_24 : decode (mB M_X3_addEye) 24 = .ok (.iastore, 1) := by decide +kernel
theorem dX3_addEye_25 : decode (mB M_X3_addEye) 25 = .ok (.aload_n 0, 1) := by decide +kernel
theorem dX3_addEye_26 : decode (mB M_X3_addEye) 26 = .ok (.dup, 1) := by decide +kernel
theorem dX3_addEye_27 : decode (mB M_X3_addEye) 27 = .ok (.getfield 38, 3) := by decide +kernel
theorem dX3_addEye_30 : decode (mB M_X3_addEye) 30 = .ok (.iconst 1, 1) := by decide +kernel
theorem dX3_addEye_31 : decode (mB M_X3_addEye) 31 = .ok (.iadd, 1) := by decide +kernel
theorem dX3_addEye_32 : decode (mB M_X3_addEye) 32 = .ok (.putfield 38, 3) := by decide +kernel
theorem dX3_addEye_35 : decode (mB M_X3_addEye) 35 = .ok (.return_, 1) := by decide +kernel
def b_X3_addEye_0 (v0 : Nat) (h : HP) : Option (HP) :=
  (gI 3 5 h v0).bind fun x1 => (gR 3 3 h v0).bind fun x2 => (aN h x2).bind fun x3 => if x3 ≤ x1 then some h else (gR 3 3 h v0).bind fun x5 => (gI 3 5 h v0).bind fun x6 => (gI 3 6 h v0).bind fun x7 => (wI h x5 x6 x7).bind fun h8 => (gI 3 5 h8 v0).bind fun x9 => (pI 3 5 h8 v0 (x9 + 1)).bind fun h10 => some h10
def f_X3_addEye (h : HP) (v0 : Nat) : Option (HP) := (kO 3 h v0).bind fun _ => b_X3_addEye_0 v0 h
theorem w_X3_addEye_0 {l : Launch} {X : SCR} {Q : PST} {bc bs : Nat} {res : HP} {h : HP} (hQ : ∀ sz', Q (.inl none) res sz') {v0 : Nat} {sz : Nat} (hf : b_X3_addEye_0 v0 h  = some res) : SP l X M_X3_addEye 0 [(0, .ref v0)] [] h sz bc bs Q := by
  rw [b_X3_addEye_0] at hf
  refine sp_aload_n (pc := 0) dX3_addEye_0 0 rfl ?_
  obtain ⟨x1, ex1, hf⟩ := ob hf
  refine sp_gI (pc := 1) fl_RX3_38 dX3_addEye_1 ex1 ?_
  refine sp_aload_n (pc := 4) dX3_addEye_4 0 rfl ?_
  obtain ⟨x2, ex2, hf⟩ := ob hf
  refine sp_gR (pc := 5) fl_RX3_15 dX3_addEye_5 ex2 ?_
  obtain ⟨x3, ex3, hf⟩ := ob hf
  refine sp_aN (pc := 8) dX3_addEye_8 ex3 ?_
  refine sp_icmp_ge (pc := 9) (tgt := 35) dX3_addEye_9 (by decide) (fun c4 => ?_) (fun c4 => ?_)
  · rw [if_pos c4] at hf
    obtain rfl := Option.some.inj hf
    exact sp_return (pc := 35) dX3_addEye_35 rfl (hQ _)
  · rw [if_neg c4] at hf
    refine sp_aload_n (pc := 12) dX3_addEye_12 0 rfl ?_
    obtain ⟨x5, ex5, hf⟩ := ob hf
    refine sp_gR (pc := 13) fl_RX3_15 dX3_addEye_13 ex5 ?_
    refine sp_aload_n (pc := 16) dX3_addEye_16 0 rfl ?_
    obtain ⟨x6, ex6, hf⟩ := ob hf
    refine sp_gI (pc := 17) fl_RX3_38 dX3_addEye_17 ex6 ?_
    refine sp_aload_n (pc := 20) dX3_addEye_20 0 rfl ?_
    obtain ⟨x7, ex7, hf⟩ := ob hf
    refine sp_gI (pc := 21) fl_RX3_41 dX3_addEye_21 ex7 ?_
    obtain ⟨h8, eh8, hf⟩ := ob hf
    refine sp_wI (pc := 24) dX3_addEye_24 eh8 (fun sz => ?_)
    refine sp_aload_n (pc := 25) dX3_addEye_25 0 rfl ?_
    refine sp_dup (pc := 26) dX3_addEye_26 rfl ?_
    obtain ⟨x9, ex9, hf⟩ := ob hf
    refine sp_gI (pc := 27) fl_RX3_38 dX3_addEye_27 ex9 ?_
    refine sp_iconst (pc := 30) (v := 1) dX3_addEye_30 (by decide) ?_
    refine sp_iadd (pc := 31) dX3_addEye_31 ?_
    obtain ⟨h10, eh10, hf⟩ := ob hf
    refine sp_pI (pc := 32) pf_RX3_38 dX3_addEye_32 eh10 (fun sz => ?_)
    obtain rfl := Option.some.inj hf
    exact sp_return (pc := 35) dX3_addEye_35 rfl (hQ _)

theorem o_X3_addEye {h : HP} {v0 : Nat} {res : HP} (hf : f_X3_addEye h v0 = some res) : ∃ fs, h v0 = some (.inr (3, fs)) := by
  obtain ⟨u, eu, -⟩ := ob hf
  exact kO_spec eu

theorem m_X3_addEye {l : Launch} {Q : PST} {h : HP} {v0 : Nat} {sz : Nat} {res : HP} (hQ : ∀ sz', Q (.inl none) res sz') (hf : f_X3_addEye h v0 = some res) : MM l M_X3_addEye [.ref v0] h sz Q := by
  obtain ⟨u, eu, hf⟩ := ob hf
  exact MM_of wok_X3_addEye (by decide +kernel) (Nat.le_of_ble_eq_true rfl) ((w_X3_addEye_0 hQ hf))

theorem dX3_dropEye_0 : decode (mB M_X3_dropEye) 0 = .ok (.aload_n 0, 1) := by decide +kernel
theorem dX3_dropEye_1 : decode (mB M_X3_dropEye) 1 = .ok (.iload_n 1, 1) := by decide +kernel
theorem dX3_dropEye_2 : decode (mB M_X3_dropEye) 2 = .ok (.invokevirtual 89, 3) := by decide +kernel
theorem dX3_dropEye_5 : decode (mB M_X3_dropEye) 5 = .ok (.ifCond .ne 4, 3) := by decide +kernel
theorem dX3_dropEye_8 : decode (mB M_X3_dropEye) 8 = .ok (.return_, 1) := by decide +kernel
theorem dX3_dropEye_9 : decode (mB M_X3_dropEye) 9 = .ok (.iload_n 1, 1) := by decide +kernel
theorem dX3_dropEye_10 : decode (mB M_X3_dropEye) 10 = .ok (.iconst 1, 1) := by decide +kernel
theorem dX3_dropEye_11 : decode (mB M_X3_dropEye) 11 = .ok (.iadd, 1) := by decide +kernel
theorem dX3_dropEye_12 : decode (mB M_X3_dropEye) 12 = .ok (.istore_n 2, 1) := by decide +kernel
theorem dX3_dropEye_13 : decode (mB M_X3_dropEye) 13 = .ok (.iload_n 2, 1) := by decide +kernel
theorem dX3_dropEye_14 : decode (mB M_X3_dropEye) 14 = .ok (.aload_n 0, 1) := by decide +kernel
theorem dX3_dropEye_15 : decode (mB M_X3_dropEye) 15 = .ok (.getfield 38, 3) := by decide +kernel
theorem dX3_dropEye_18 : decode (mB M_X3_dropEye) 18 = .ok (.if_icmp .ge 23, 3) := by decide +kernel
theorem dX3_dropEye_21 : decode (mB M_X3_dropEye) 21 = .ok (.aload_n 0, 1) := by decide +kernel
theorem dX3_dropEye_22 : decode (mB M_X3_dropEye) 22 = .ok (.getfield 15, 3) := by decide +kernel
theorem dX3_dropEye_25 : decode (mB M_X3_dropEye) 25 = .ok (.iload_n 2, 1) := by decide +kernel
theorem dX3_dropEye_26 : decode (mB M_X3_dropEye) 26 = .ok (.iconst 1, 1) := by decide +kernel
theorem dX3_dropEye_27 : decode (mB M_X3_dropEye) 27 = .ok (.isub, 1) := by decide +kernel
theorem dX3_dropEye_28 : decode (mB M_X3_dropEye) 28 = .ok (.aload_n 0, 1) := by decide +kernel
theorem dX3_dropEye_29 : decode (mB M_X3_dropEye) 29 = .ok (.getfield 15, 3) := by decide +kernel
theorem dX3_dropEye_32 : decode (mB M_X3_dropEye) 32 = .ok (.iload_n 2, 1) := by decide +kernel
theorem dX3_dropEye_33 : decode (mB M_X3_dropEye) 33 = .ok (.iaload, 1) := by decide +kernel
theorem dX3_dropEye_34 : decode (mB M_X3_dropEye) 34 = .ok (.iastore, 1) := by decide +kernel
theorem dX3_dropEye_35 : decode (mB M_X3_dropEye) 35 = .ok (.iinc 2 1, 3) := by decide +kernel
theorem dX3_dropEye_38 : decode (mB M_X3_dropEye) 38 = .ok (.goto (-25), 3) := by decide +kernel
theorem dX3_dropEye_41 : decode (mB M_X3_dropEye) 41 = .ok (.aload_n 0, 1) := by decide +kernel
theorem dX3_dropEye_42 : decode (mB M_X3_dropEye) 42 = .ok (.dup, 1) := by decide +kernel
theorem dX3_dropEye_43 : decode (mB M_X3_dropEye) 43 = .ok (.getfield 38, 3) := by decide +kernel
theorem dX3_dropEye_46 : decode (mB M_X3_dropEye) 46 = .ok (.iconst 1, 1) := by decide +kernel
theorem dX3_dropEye_47 : decode (mB M_X3_dropEye) 47 = .ok (.isub, 1) := by decide +kernel
theorem dX3_dropEye_48 : decode (mB M_X3_dropEye) 48 = .ok (.putfield 38, 3) := by decide +kernel
theorem dX3_dropEye_51 : decode (mB M_X3_dropEye) 51 = .ok (.return_, 1) := by decide +kernel
def c_X3_dropEye_13 (v0 : Nat) (k13 : HP → Int32 → Option (HP)) (h : HP) (v2 : Int32) : Option (HP) :=
  (gI 3 5 h v0).bind fun x1 => if x1 ≤ v2 then (gI 3 5 h v0).bind fun x3 => (pI 3 5 h v0 (x3 - 1)).bind fun h4 => some h4 else (gR 3 3 h v0).bind fun x5 => (gR 3 3 h v0).bind fun x6 => (aI h x6 v2).bind fun x7 => (wI h x5 (v2 - 1) x7).bind fun h8 => k13 h8 (v2 + 1)
def b_X3_dropEye_13 (v0 : Nat) : Nat → HP → Int32 → Option (HP)
  | 0, _, _ => none
  | n + 1, h, v2 => c_X3_dropEye_13 v0 (b_X3_dropEye_13 v0 n) h v2
def b_X3_dropEye_0 (v0 : Nat) (v1 : Int32) (h : HP) : Option (HP) :=
  (f_X3_isEye h v0 v1).bind fun y1 => if y1 = 0 then some h else b_X3_dropEye_13 v0 FU h (v1 + 1)
def f_X3_dropEye (h : HP) (v0 : Nat) (v1 : Int32) : Option (HP) := (kO 3 h v0).bind fun _ => b_X3_dropEye_0 v0 v1 h
theorem wc_X3_dropEye_13 {l : Launch} {X : SCR} {Q : PST} {bc bs : Nat} {res : HP} (hQ : ∀ sz', Q (.inl none) res sz') {v0 : Nat} {k13 : HP → Int32 → Option (HP)} (hk13 : ∀ (h : HP) (v2 : Int32) (sz : Nat), k13 h v2 = some res → SP l X M_X3_dropEye 13 [(0, .ref v0), (2, .int v2)] [] h sz bc bs Q) {h : HP} {v2 : Int32} {sz : Nat} (hf : c_X3_dropEye_13 v0 k13 h v2 = some res) : SP l X M_X3_dropEye 13 [(0, .ref v0), (2, .int v2)] [] h sz bc bs Q := by
  rw [c_X3_dropEye_13] at hf
  refine sp_iload_n (pc := 13) dX3_dropEye_13 1 rfl ?_
  refine sp_aload_n (pc := 14) dX3_dropEye_14 0 rfl ?_
  obtain ⟨x1, ex1, hf⟩ := ob hf
  refine sp_gI (pc := 15) fl_RX3_38 dX3_dropEye_15 ex1 ?_
  refine sp_icmp_ge (pc := 18) (tgt := 41) dX3_dropEye_18 (by decide) (fun c2 => ?_) (fun c2 => ?_)
  · rw [if_pos c2] at hf
    refine sp_aload_n (pc := 41) dX3_dropEye_41 0 rfl ?_
    refine sp_dup (pc := 42) dX3_dropEye_42 rfl ?_
    obtain ⟨x3, ex3, hf⟩ := ob hf
    refine sp_gI (pc := 43) fl_RX3_38 dX3_dropEye_43 ex3 ?_
    refine sp_iconst (pc := 46) (v := 1) dX3_dropEye_46 (by decide) ?_
    refine sp_isub (pc := 47) dX3_dropEye_47 ?_
    obtain ⟨h4, eh4, hf⟩ := ob hf
    refine sp_pI (pc := 48) pf_RX3_38 dX3_dropEye_48 eh4 (fun sz => ?_)
    obtain rfl := Option.some.inj hf
    exact sp_return (pc := 51) dX3_dropEye_51 rfl (hQ _)
  · rw [if_neg c2] at hf
    refine sp_aload_n (pc := 21) dX3_dropEye_21 0 rfl ?_
    obtain ⟨x5, ex5, hf⟩ := ob hf
    refine sp_gR (pc := 22) fl_RX3_15 dX3_dropEye_22 ex5 ?_
    refine sp_iload_n (pc := 25) dX3_dropEye_25 1 rfl ?_
    refine sp_iconst (pc := 26) (v := 1) dX3_dropEye_26 (by decide) ?_
    refine sp_isub (pc := 27) dX3_dropEye_27 ?_
    refine sp_aload_n (pc := 28) dX3_dropEye_28 0 rfl ?_
    obtain ⟨x6, ex6, hf⟩ := ob hf
    refine sp_gR (pc := 29) fl_RX3_15 dX3_dropEye_29 ex6 ?_
    refine sp_iload_n (pc := 32) dX3_dropEye_32 1 rfl ?_
    obtain ⟨x7, ex7, hf⟩ := ob hf
    refine sp_aI (pc := 33) dX3_dropEye_33 ex7 ?_
    obtain ⟨h8, eh8, hf⟩ := ob hf
    refine sp_wI (pc := 34) dX3_dropEye_34 eh8 (fun sz => ?_)
    refine sp_iinc (pc := 35) (v := v2 + 1) (lv' := [(2, .int (v2 + 1)), (0, .ref v0)]) dX3_dropEye_35 1 rfl rfl (by decide) rfl ?_
    refine sp_goto (pc := 38) (tgt := 13) dX3_dropEye_38 (by decide) ?_
    exact sp_sub [1, 0] rfl (hk13 _ _ _ hf)

theorem w_X3_dropEye_13 {l : Launch} {X : SCR} {Q : PST} {bc bs : Nat} {res : HP} (hQ : ∀ sz', Q (.inl none) res sz') {v0 : Nat} : ∀ (n : Nat) {h : HP} {v2 : Int32} {sz : Nat}, b_X3_dropEye_13 v0 n h v2 = some res → SP l X M_X3_dropEye 13 [(0, .ref v0), (2, .int v2)] [] h sz bc bs Q := by
  intro n
  induction n with
  | zero =>
    intro h v2 sz hf
    rw [b_X3_dropEye_13] at hf
    cases hf
  | succ n ih =>
    intro h v2 sz hf
    rw [b_X3_dropEye_13] at hf
    exact wc_X3_dropEye_13 hQ (fun h v2 sz hf => ih hf) hf

theorem w_X3_dropEye_0 {l : Launch} {X : SCR} {Q : PST} {bc bs : Nat} {res : HP} {h : HP} (hQ : ∀ sz', Q (.inl none) res sz') {v0 : Nat} {v1 : Int32} {sz : Nat} (hf : b_X3_dropEye_0 v0 v1 h  = some res) : SP l X M_X3_dropEye 0 [(0, .ref v0), (1, .int v1)] [] h sz bc bs Q := by
  rw [b_X3_dropEye_0] at hf
  refine sp_aload_n (pc := 0) dX3_dropEye_0 0 rfl ?_
  refine sp_iload_n (pc := 1) dX3_dropEye_1 1 rfl ?_
  obtain ⟨y1, ey1, hf⟩ := ob hf
  obtain ⟨fsy1, hoy1⟩ := o_X3_isEye ey1
  refine sp_callVi (pc := 2) (z := M_X3_isEye) (As := [.int v1]) (b := v0) (bc2 := bc) (bs2 := bs) (m_X3_isEye (Q := _) (fun sz => ⟨y1, rfl, ?_⟩) ey1) rfl dX3_dropEye_2 hoy1 rfl rfl ck_X3_dropEye_89 (Nat.le_of_ble_eq_true rfl) rfl rfl rfl
  refine sp_if_ne (pc := 5) (tgt := 9) dX3_dropEye_5 (by decide) (fun c2 => ?_) (fun c2 => ?_)
  · rw [if_neg c2] at hf
    refine sp_iload_n (pc := 9) dX3_dropEye_9 1 rfl ?_
    refine sp_iconst (pc := 10) (v := 1) dX3_dropEye_10 (by decide) ?_
    refine sp_iadd (pc := 11) dX3_dropEye_11 ?_
    refine sp_istore_n (pc := 12) (lv' := [(2, .int (v1 + 1)), (0, .ref v0), (1, .int v1)]) dX3_dropEye_12 (by decide) rfl ?_
    exact sp_sub [1, 0] rfl (w_X3_dropEye_13 hQ FU hf)
  · rw [if_pos c2] at hf
    obtain rfl := Option.some.inj hf
    exact sp_return (pc := 8) dX3_dropEye_8 rfl (hQ _)

theorem o_X3_dropEye {h : HP} {v0 : Nat} {v1 : Int32} {res : HP} (hf : f_X3_dropEye h v0 v1 = some res) : ∃ fs, h v0 = some (.inr (3, fs)) := by
  obtain ⟨u, eu, -⟩ := ob hf
  exact kO_spec eu

theorem m_X3_dropEye {l : Launch} {Q : PST} {h : HP} {v0 : Nat} {v1 : Int32} {sz : Nat} {res : HP} (hQ : ∀ sz', Q (.inl none) res sz') (hf : f_X3_dropEye h v0 v1 = some res) : MM l M_X3_dropEye [.ref v0, .int v1] h sz Q := by
  obtain ⟨u, eu, hf⟩ := ob hf
  exact MM_of wok_X3_dropEye (by decide +kernel) (Nat.le_of_ble_eq_true rfl) ((w_X3_dropEye_0 hQ hf))

theorem dX3_dropAllEyes_0 : decode (mB M_X3_dropAllEyes) 0 = .ok (.aload_n 0, 1) := by decide +kernel
theorem dX3_dropAllEyes_1 : decode (mB M_X3_dropAllEyes) 1 = .ok (.iconst 0, 1) := by decide +kernel
theorem dX3_dropAllEyes_2 : decode (mB M_X3_dropAllEyes) 2 = .ok (.putfield 38, 3) := by decide +kernel
theorem dX3_dropAllEyes_5 : decode (mB M_X3_dropAllEyes) 5 = .ok (.return_, 1) := by decide +kernel
def b_X3_dropAllEyes_0 (v0 : Nat) (h : HP) : Option (HP) :=
  (pI 3 5 h v0 0).bind fun h1 => some h1
def f_X3_dropAllEyes (h : HP) (v0 : Nat) : Option (HP) := (kO 3 h v0).bind fun _ => b_X3_dropAllEyes_0 v0 h
theorem w_X3_dropAllEyes_0 {l : Launch} {X : SCR} {Q : PST} {bc bs : Nat} {res : HP} {h : HP} (hQ : ∀ sz', Q (.inl none) res sz') {v0 : Nat} {sz : Nat} (hf : b_X3_dropAllEyes_0 v0 h  = some res) : SP l X M_X3_dropAllEyes 0 [(0, .ref v0)] [] h sz bc bs Q := by
  rw [b_X3_dropAllEyes_0] at hf
  refine sp_aload_n (pc := 0) dX3_dropAllEyes_0 0 rfl ?_
  refine sp_iconst (pc := 1) (v := 0) dX3_dropAllEyes_1 (by decide) ?_
  obtain ⟨h1, eh1, hf⟩ := ob hf
  refine sp_pI (pc := 2) pf_RX3_38 dX3_dropAllEyes_2 eh1 (fun sz => ?_)
  obtain rfl := Option.some.inj hf
  exact sp_return (pc := 5) dX3_dropAllEyes_5 rfl (hQ _)

theorem o_X3_dropAllEyes {h : HP} {v0 : Nat} {res : HP} (hf : f_X3_dropAllEyes h v0 = some res) : ∃ fs, h v0 = some (.inr (3, fs)) := by
  obtain ⟨u, eu, -⟩ := ob hf
  exact kO_spec eu

theorem m_X3_dropAllEyes {l : Launch} {Q : PST} {h : HP} {v0 : Nat} {sz : Nat} {res : HP} (hQ : ∀ sz', Q (.inl none) res sz') (hf : f_X3_dropAllEyes h v0 = some res) : MM l M_X3_dropAllEyes [.ref v0] h sz Q := by
  obtain ⟨u, eu, hf⟩ := ob hf
  exact MM_of wok_X3_dropAllEyes (by decide +kernel) (Nat.le_of_ble_eq_true rfl) ((w_X3_dropAllEyes_0 hQ hf))

theorem dX3_flushMemory_0 : decode (mB M_X3_flushMemory) 0 = .ok (.aload_n 0, 1) := by decide +kernel
theorem dX3_flushMemory_1 : decode (mB M_X3_flushMemory) 1 = .ok (.getfield 18, 3) := by decide +kernel
theorem dX3_flushMemory_4 : decode (mB M_X3_flushMemory) 4 = .ok (.aload_n 0, 1) := by decide +kernel
theorem dX3_flushMemory_5 : decode (mB M_X3_flushMemory) 5 = .ok (.iconst (-1), 1) := by decide +kernel
theorem dX3_flushMemory_6 : decode (mB M_X3_flushMemory) 6 = .ok (.iconst (-1), 1) := by decide +kernel
theorem dX3_flushMemory_7 : decode (mB M_X3_flushMemory) 7 = .ok (.invokevirtual 112, 3) := by decide +kernel
theorem dX3_flushMemory_10 : decode (mB M_X3_flushMemory) 10 = .ok (.istore_n 1, 1) := by decide +kernel
theorem dX3_flushMemory_11 : decode (mB M_X3_flushMemory) 11 = .ok (.aload_n 0, 1) := by decide +kernel
theorem dX3_flushMemory_12 : decode (mB M_X3_flushMemory) 12 = .ok (.dup, 1) := by decide +kernel
theorem dX3_flushMemory_13 : decode (mB M_X3_flushMemory) 13 = .ok (.getfield 44, 3) := by decide +kernel
theorem dX3_flushMemory_16 : decode (mB M_X3_flushMemory) 16 = .ok (.aload_n 0, 1) := by decide +kernel
theorem dX3_flushMemory_17 : decode (mB M_X3_flushMemory) 17 = .ok (.iconst (-1), 1) := by decide +kernel
theorem dX3_flushMemory_18 : decode (mB M_X3_flushMemory) 18 = .ok (.invokevirtual 109, 3) := by decide +kernel
theorem dX3_flushMemory_21 : decode (mB M_X3_flushMemory) 21 = .ok (.iload_n 1, 1) := by decide +kernel
theorem dX3_flushMemory_22 : decode (mB M_X3_flushMemory) 22 = .ok (.isub, 1) := by decide +kernel
theorem dX3_flushMemory_23 : decode (mB M_X3_flushMemory) 23 = .ok (.iadd, 1) := by decide +kernel
theorem dX3_flushMemory_24 : decode (mB M_X3_flushMemory) 24 = .ok (.putfield 44, 3) := by decide +kernel
theorem dX3_flushMemory_27 : decode (mB M_X3_flushMemory) 27 = .ok (.aload_n 0, 1) := by decide +kernel
theorem dX3_flushMemory_28 : decode (mB M_X3_flushMemory) 28 = .ok (.getfield 27, 3) := by decide +kernel
theorem dX3_flushMemory_31 : decode (mB M_X3_flushMemory) 31 = .ok (.aload_n 0, 1) := by decide +kernel
theorem dX3_flushMemory_32 : decode (mB M_X3_flushMemory) 32 = .ok (.iconst (-1), 1) := by decide +kernel
theorem dX3_flushMemory_33 : decode (mB M_X3_flushMemory) 33 = .ok (.invokevirtual 69, 3) := by decide +kernel
theorem dX3_flushMemory_36 : decode (mB M_X3_flushMemory) 36 = .ok (.aload_n 0, 1) := by decide +kernel
theorem dX3_flushMemory_37 : decode (mB M_X3_flushMemory) 37 = .ok (.iconst (-1), 1) := by decide +kernel
theorem dX3_flushMemory_38 : decode (mB M_X3_flushMemory) 38 = .ok (.invokevirtual 65, 3) := by decide +kernel
theorem dX3_flushMemory_41 : decode (mB M_X3_flushMemory) 41 = .ok (.aload_n 0, 1) := by decide +kernel
theorem dX3_flushMemory_42 : decode (mB M_X3_flushMemory) 42 = .ok (.getfield 18, 3) := by decide +kernel
theorem dX3_flushMemory_45 : decode (mB M_X3_flushMemory) 45 = .ok (.getfield 122, 3) := by decide +kernel
theorem dX3_flushMemory_48 : decode (mB M_X3_flushMemory) 48 = .ok (.invokevirtual 51, 3) := by decide +kernel
theorem dX3_flushMemory_51 : decode (mB M_X3_flushMemory) 51 = .ok (.iload_n 1, 1) := by decide +kernel
theorem dX3_flushMemory_52 : decode (mB M_X3_flushMemory) 52 = .ok (.ifCond .le 41, 3) := by decide +kernel
theorem dX3_flushMemory_55 : decode (mB M_X3_flushMemory) 55 = .ok (.aload_n 0, 1) := by decide +kernel
theorem dX3_flushMemory_56 : decode (mB M_X3_flushMemory) 56 = .ok (.getfield 34, 3) := by decide +kernel
theorem dX3_flushMemory_59 : decode (mB M_X3_flushMemory) 59 = .ok (.aload_n 0, 1) := by decide +kernel
theorem dX3_flushMemory_60 : decode (mB M_X3_flushMemory) 60 = .ok (.getfield 9, 3) := by decide +kernel
theorem dX3_flushMemory_63 : decode (mB M_X3_flushMemory) 63 = .ok (.arraylength, 1) := by decide +kernel
theorem dX3_flushMemory_64 : decode (mB M_X3_flushMemory) 64 = .ok (.if_icmp .ge 29, 3) := by decide +kernel
theorem dX3_flushMemory_67 : decode (mB M_X3_flushMemory) 67 = .ok (.aload_n 0, 1) := by decide +kernel
theorem dX3_flushMemory_68 : decode (mB M_X3_flushMemory) 68 = .ok (.getfield 9, 3) := by decide +kernel
theorem dX3_flushMemory_71 : decode (mB M_X3_flushMemory) 71 = .ok (.aload_n 0, 1) := by decide +kernel
theorem dX3_flushMemory_72 : decode (mB M_X3_flushMemory) 72 = .ok (.getfield 34, 3) := by decide +kernel
theorem dX3_flushMemory_75 : decode (mB M_X3_flushMemory) 75 = .ok (.aload_n 0, 1) := by decide +kernel
theorem dX3_flushMemory_76 : decode (mB M_X3_flushMemory) 76 = .ok (.getfield 27, 3) := by decide +kernel
theorem dX3_flushMemory_79 : decode (mB M_X3_flushMemory) 79 = .ok (.invokevirtual 47, 3) := by decide +kernel
theorem dX3_flushMemory_82 : decode (mB M_X3_flushMemory) 82 = .ok (.iastore, 1) := by decide +kernel
theorem dX3_flushMemory_83 : decode (mB M_X3_flushMemory) 83 = .ok (.aload_n 0, 1) := by decide +kernel
theorem dX3_flushMemory_84 : decode (mB M_X3_flushMemory) 84 = .ok (.dup, 1) := by decide +kernel
theorem dX3_flushMemory_85 : decode (mB M_X3_flushMemory) 85 = .ok (.getfield 34, 3) := by decide +kernel
theorem dX3_flushMemory_88 : decode (mB M_X3_flushMemory) 88 = .ok (.iconst 1, 1) := by decide +kernel
theorem dX3_flushMemory_89 : decode (mB M_X3_flushMemory) 89 = .ok (.iadd, 1) := by decide +kernel
theorem dX3_flushMemory_90 : decode (mB M_X3_flushMemory) 90 = .ok (.putfield 34, 3) := by decide +kernel
theorem dX3_flushMemory_93 : decode (mB M_X3_flushMemory) 93 = .ok (.iload_n 1, 1) := by decide +kernel
theorem dX3_flushMemory_94 : decode (mB M_X3_flushMemory) 94 = .ok (.ireturn, 1) := by decide +kernel
def b_X3_flushMemory_0 (v0 : Nat) (h : HP) : Option (Int32 × HP) :=
  (gR 3 0 h v0).bind fun x1 => (f_X0_clean h x1 v0 (-1) (-1)).bind fun y2 => (gI 3 7 y2.2 v0).bind fun x3 => (f_X3_sizeOf y2.2 v0 (-1)).bind fun y4 => (pI 3 7 y2.2 v0 (x3 + (y4 - y2.1))).bind fun h5 => (gR 3 1 h5 v0).bind fun x6 => (f_X3_startOf h5 v0 (-1)).bind fun y7 => (f_X3_endOf h5 v0 (-1)).bind fun y8 => (gR 3 0 h5 v0).bind fun x9 => (gR 0 0 h5 x9).bind fun x10 => (f_X6_replace h5 x6 y7 y8 x10).bind fun y11 => if y2.1 ≤ 0 then some (y2.1, y11) else (gI 3 4 y11 v0).bind fun x13 => (gR 3 2 y11 v0).bind fun x14 => (aN y11 x14).bind fun x15 => if x15 ≤ x13 then some (y2.1, y11) else (gR 3 2 y11 v0).bind fun x17 => (gI 3 4 y11 v0).bind fun x18 => (gR 3 1 y11 v0).bind fun x19 => (f_X6_size y11 x19).bind fun y20 => (wI y11 x17 x18 y20).bind fun h21 => (gI 3 4 h21 v0).bind fun x22 => (pI 3 4 h21 v0 (x22 + 1)).bind fun h23 => some (y2.1, h23)
def f_X3_flushMemory (h : HP) (v0 : Nat) : Option (Int32 × HP) := (kO 3 h v0).bind fun _ => b_X3_flushMemory_0 v0 h
theorem w_X3_flushMemory_0 {l : Launch} {X : SCR} {Q : PST} {bc bs : Nat} {res : Int32 × HP} {h : HP} (hQ : ∀ sz', Q (.inl (some (.int res.1))) res.2 sz') {v0 : Nat} {sz : Nat} (hf : b_X3_flushMemory_0 v0 h  = some res) : SP l X M_X3_flushMemory 0 [(0, .ref v0)] [] h sz bc bs Q := by
  rw [b_X3_flushMemory_0] at hf
  refine sp_aload_n (pc := 0) dX3_flushMemory_0 0 rfl ?_
  obtain ⟨x1, ex1, hf⟩ := ob hf
  refine sp_gR (pc := 1) fl_RX3_18 dX3_flushMemory_1 ex1 ?_
  refine sp_aload_n (pc := 4) dX3_flushMemory_4 0 rfl ?_
  refine sp_iconst (pc := 5) (v := (-1)) dX3_flushMemory_5 (by decide) ?_
  refine sp_iconst (pc := 6) (v := (-1)) dX3_flushMemory_6 (by decide) ?_
  obtain ⟨y2, ey2, hf⟩ := ob hf
  obtain ⟨fsy2, hoy2⟩ := o_X0_clean ey2
  refine sp_callVi (pc := 7) (z := M_X0_clean) (As := [.ref v0, .int (-1), .int (-1)]) (b := x1) (bc2 := bc) (bs2 := bs) (m_X0_clean (Q := _) (fun sz => ⟨y2.1, rfl, ?_⟩) ey2) rfl dX3_flushMemory_7 hoy2 rfl rfl ck_X3_flushMemory_112 (Nat.le_of_ble_eq_true rfl) rfl rfl rfl
  refine sp_istore_n (pc := 10) (lv' := [(1, .int y2.1), (0, .ref v0)]) dX3_flushMemory_10 (by decide) rfl ?_
  refine sp_aload_n (pc := 11) dX3_flushMemory_11 1 rfl ?_
  refine sp_dup (pc := 12) dX3_flushMemory_12 rfl ?_
  obtain ⟨x3, ex3, hf⟩ := ob hf
  refine sp_gI (pc := 13) fl_RX3_44 dX3_flushMemory_13 ex3 ?_
  refine sp_aload_n (pc := 16) dX3_flushMemory_16 1 rfl ?_
  refine sp_iconst (pc := 17) (v := (-1)) dX3_flushMemory_17 (by decide) ?_
  obtain ⟨y4, ey4, hf⟩ := ob hf
  obtain ⟨fsy4, hoy4⟩ := o_X3_sizeOf ey4
  refine sp_callVi (pc := 18) (z := M_X3_sizeOf) (As := [.int (-1)]) (b := v0) (bc2 := bc) (bs2 := bs) (m_X3_sizeOf (Q := _) (fun sz => ⟨y4, rfl, ?_⟩) ey4) rfl dX3_flushMemory_18 hoy4 rfl rfl ck_X3_flushMemory_109 (Nat.le_of_ble_eq_true rfl) rfl rfl rfl
  refine sp_iload_n (pc := 21) dX3_flushMemory_21 0 rfl ?_
  refine sp_isub (pc := 22) dX3_flushMemory_22 ?_
  refine sp_iadd (pc := 23) dX3_flushMemory_23 ?_
  obtain ⟨h5, eh5, hf⟩ := ob hf
  refine sp_pI (pc := 24) pf_RX3_44 dX3_flushMemory_24 eh5 (fun sz => ?_)
  refine sp_aload_n (pc := 27) dX3_flushMemory_27 1 rfl ?_
  obtain ⟨x6, ex6, hf⟩ := ob hf
  refine sp_gR (pc := 28) fl_RX3_27 dX3_flushMemory_28 ex6 ?_
  refine sp_aload_n (pc := 31) dX3_flushMemory_31 1 rfl ?_
  refine sp_iconst (pc := 32) (v := (-1)) dX3_flushMemory_32 (by decide) ?_
  obtain ⟨y7, ey7, hf⟩ := ob hf
  obtain ⟨fsy7, hoy7⟩ := o_X3_startOf ey7
  refine sp_callVi (pc := 33) (z := M_X3_startOf) (As := [.int (-1)]) (b := v0) (bc2 := bc) (bs2 := bs) (m_X3_startOf (Q := _) (fun sz => ⟨y7, rfl, ?_⟩) ey7) rfl dX3_flushMemory_33 hoy7 rfl rfl ck_X3_flushMemory_69 (Nat.le_of_ble_eq_true rfl) rfl rfl rfl
  refine sp_aload_n (pc := 36) dX3_flushMemory_36 1 rfl ?_
  refine sp_iconst (pc := 37) (v := (-1)) dX3_flushMemory_37 (by decide) ?_
  obtain ⟨y8, ey8, hf⟩ := ob hf
  obtain ⟨fsy8, hoy8⟩ := o_X3_endOf ey8
  refine sp_callVi (pc := 38) (z := M_X3_endOf) (As := [.int (-1)]) (b := v0) (bc2 := bc) (bs2 := bs) (m_X3_endOf (Q := _) (fun sz => ⟨y8, rfl, ?_⟩) ey8) rfl dX3_flushMemory_38 hoy8 rfl rfl ck_X3_flushMemory_65 (Nat.le_of_ble_eq_true rfl) rfl rfl rfl
  refine sp_aload_n (pc := 41) dX3_flushMemory_41 1 rfl ?_
  obtain ⟨x9, ex9, hf⟩ := ob hf
  refine sp_gR (pc := 42) fl_RX3_18 dX3_flushMemory_42 ex9 ?_
  obtain ⟨x10, ex10, hf⟩ := ob hf
  refine sp_gR (pc := 45) fl_RX3_122 dX3_flushMemory_45 ex10 ?_
  obtain ⟨y11, ey11, hf⟩ := ob hf
  obtain ⟨fsy11, hoy11⟩ := o_X6_replace ey11
  refine sp_callVv (pc := 48) (z := M_X6_replace) (As := [.int y7, .int y8, .ref x10]) (b := x6) (bc2 := bc) (bs2 := bs) (m_X6_replace (Q := _) (fun sz => ⟨(), rfl, ?_⟩) ey11) rfl dX3_flushMemory_48 hoy11 rfl rfl ck_X3_flushMemory_51 (Nat.le_of_ble_eq_true rfl) rfl rfl rfl
  refine sp_iload_n (pc := 51) dX3_flushMemory_51 0 rfl ?_
  refine sp_if_le (pc := 52) (tgt := 93) dX3_flushMemory_52 (by decide) (fun c12 => ?_) (fun c12 => ?_)
  · rw [if_pos c12] at hf
    refine sp_iload_n (pc := 93) dX3_flushMemory_93 0 rfl ?_
    obtain rfl := Option.some.inj hf
    exact sp_ireturn (pc := 94) dX3_flushMemory_94 rfl rfl (hQ _)
  · rw [if_neg c12] at hf
    refine sp_aload_n (pc := 55) dX3_flushMemory_55 1 rfl ?_
    obtain ⟨x13, ex13, hf⟩ := ob hf
    refine sp_gI (pc := 56) fl_RX3_34 dX3_flushMemory_56 ex13 ?_
    refine sp_aload_n (pc := 59) dX3_flushMemory_59 1 rfl ?_
    obtain ⟨x14, ex14, hf⟩ := ob hf
    refine sp_gR (pc := 60) fl_RX3_9 dX3_flushMemory_60 ex14 ?_
    obtain ⟨x15, ex15, hf⟩ := ob hf
    refine sp_aN (pc := 63) dX3_flushMemory_63 ex15 ?_
    refine sp_icmp_ge (pc := 64) (tgt := 93) dX3_flushMemory_64 (by decide) (fun c16 => ?_) (fun c16 => ?_)
    · rw [if_pos c16] at hf
      refine sp_iload_n (pc := 93) dX3_flushMemory_93 0 rfl ?_
      obtain rfl := Option.some.inj hf
      exact sp_ireturn (pc := 94) dX3_flushMemory_94 rfl rfl (hQ _)
    · rw [if_neg c16] at hf
      refine sp_aload_n (pc := 67) dX3_flushMemory_67 1 rfl ?_
      obtain ⟨x17, ex17, hf⟩ := ob hf
      refine sp_gR (pc := 68) fl_RX3_9 dX3_flushMemory_68 ex17 ?_
      refine sp_aload_n (pc := 71) dX3_flushMemory_71 1 rfl ?_
      obtain ⟨x18, ex18, hf⟩ := ob hf
      refine sp_gI (pc := 72) fl_RX3_34 dX3_flushMemory_72 ex18 ?_
      refine sp_aload_n (pc := 75) dX3_flushMemory_75 1 rfl ?_
      obtain ⟨x19, ex19, hf⟩ := ob hf
      refine sp_gR (pc := 76) fl_RX3_27 dX3_flushMemory_76 ex19 ?_
      obtain ⟨y20, ey20, hf⟩ := ob hf
      obtain ⟨fsy20, hoy20⟩ := o_X6_size ey20
      refine sp_callVi (pc := 79) (z := M_X6_size) (As := []) (b := x19) (bc2 := bc) (bs2 := bs) (m_X6_size (Q := _) (fun sz => ⟨y20, rfl, ?_⟩) ey20) rfl dX3_flushMemory_79 hoy20 rfl rfl ck_X3_flushMemory_47 (Nat.le_of_ble_eq_true rfl) rfl rfl rfl
      obtain ⟨h21, eh21, hf⟩ := ob hf
      refine sp_wI (pc := 82) dX3_flushMemory_82 eh21 (fun sz => ?_)
      refine sp_aload_n (pc := 83) dX3_flushMemory_83 1 rfl ?_
      refine sp_dup (pc := 84) dX3_flushMemory_84 rfl ?_
      obtain ⟨x22, ex22, hf⟩ := ob hf
      refine sp_gI (pc := 85) fl_RX3_34 dX3_flushMemory_85 ex22 ?_
      refine sp_iconst (pc := 88) (v := 1) dX3_flushMemory_88 (by decide) ?_
      refine sp_iadd (pc := 89) dX3_flushMemory_89 ?_
      obtain ⟨h23, eh23, hf⟩ := ob hf
      refine sp_pI (pc := 90) pf_RX3_34 dX3_flushMemory_90 eh23 (fun sz => ?_)
      refine sp_iload_n (pc := 93) dX3_flushMemory_93 0 rfl ?_
      obtain rfl := Option.some.inj hf
      exact sp_ireturn (pc := 94) dX3_flushMemory_94 rfl rfl (hQ _)

theorem o_X3_flushMemory {h : HP} {v0 : Nat} {res : Int32 × HP} (hf : f_X3_flushMemory h v0 = some res) : ∃ fs, h v0 = some (.inr (3, fs)) := by
  obtain ⟨u, eu, -⟩ := ob hf
  exact kO_spec eu

theorem m_X3_flushMemory {l : Launch} {Q : PST} {h : HP} {v0 : Nat} {sz : Nat} {res : Int32 × HP} (hQ : ∀ sz', Q (.inl (some (.int res.1))) res.2 sz') (hf : f_X3_flushMemory h v0 = some res) : MM l M_X3_flushMemory [.ref v0] h sz Q := by
  obtain ⟨u, eu, hf⟩ := ob hf
  exact MM_of wok_X3_flushMemory (by decide +kernel) (Nat.le_of_ble_eq_true rfl) ((w_X3_flushMemory_0 hQ hf))

theorem dX3_mergeRuns_0 : decode (mB M_X3_mergeRuns) 0 = .ok (.aload_n 0, 1) := by decide +kernel
theorem dX3_mergeRuns_1 : decode (mB M_X3_mergeRuns) 1 = .ok (.getfield 34, 3) := by decide +kernel
theorem dX3_mergeRuns_4 : decode (mB M_X3_mergeRuns) 4 = .ok (.iconst 2, 1) := by decide +kernel
theorem dX3_mergeRuns_5 : decode (mB M_X3_mergeRuns) 5 = .ok (.isub, 1) := by decide +kernel
theorem dX3_mergeRuns_6 : decode (mB M_X3_mergeRuns) 6 = .ok (.iload_n 1, 1) := by decide +kernel
theorem dX3_mergeRuns_7 : decode (mB M_X3_mergeRuns) 7 = .ok (.isub, 1) := by decide +kernel
theorem dX3_mergeRuns_8 : decode (mB M_X3_mergeRuns) 8 = .ok (.istore_n 2, 1) := by decide +kernel
theorem dX3_mergeRuns_9 : decode (mB M_X3_mergeRuns) 9 = .ok (.iload_n 2, 1) := by decide +kernel
theorem dX3_mergeRuns_10 : decode (mB M_X3_mergeRuns) 10 = .ok (.ifCond .lt 7, 3) := by decide +kernel
theorem dX3_mergeRuns_13 : decode (mB M_X3_mergeRuns) 13 = .ok (.iload_n 1, 1) := by decide +kernel
theorem dX3_mergeRuns_14 : decode (mB M_X3_mergeRuns) 14 = .ok (.ifCond .ge 5, 3) := by decide +kernel
theorem dX3_mergeRuns_17 : decode (mB M_X3_mergeRuns) 17 = .ok (.iconst 0, 1) := by decide +kernel
theorem dX3_mergeRuns_18 : decode (mB M_X3_mergeRuns) 18 = .ok (.ireturn, 1) := by decide +kernel
theorem dX3_mergeRuns_19 : decode (mB M_X3_mergeRuns) 19 = .ok (.aload_n 0, 1) := by decide +kernel
theorem dX3_mergeRuns_20 : decode (mB M_X3_mergeRuns) 20 = .ok (.getfield 18, 3) := by decide +kernel
theorem dX3_mergeRuns_23 : decode (mB M_X3_mergeRuns) 23 = .ok (.aload_n 0, 1) := by decide +kernel
theorem dX3_mergeRuns_24 : decode (mB M_X3_mergeRuns) 24 = .ok (.iload_n 1, 1) := by decide +kernel
theorem dX3_mergeRuns_25 : decode (mB M_X3_mergeRuns) 25 = .ok (.iload_n 1, 1) := by decide +kernel
theorem dX3_mergeRuns_26 : decode (mB M_X3_mergeRuns) 26 = .ok (.iconst 1, 1) := by decide +kernel
theorem dX3_mergeRuns_27 : decode (mB M_X3_mergeRuns) 27 = .ok (.iadd, 1) := by decide +kernel
theorem dX3_mergeRuns_28 : decode (mB M_X3_mergeRuns) 28 = .ok (.invokevirtual 112, 3) := by decide +kernel
theorem dX3_mergeRuns_31 : decode (mB M_X3_mergeRuns) 31 = .ok (.istore_n 3, 1) := by decide +kernel
theorem dX3_mergeRuns_32 : decode (mB M_X3_mergeRuns) 32 = .ok (.aload_n 0, 1) := by decide +kernel
theorem dX3_mergeRuns_33 : decode (mB M_X3_mergeRuns) 33 = .ok (.iload_n 1, 1) := by decide +kernel
theorem dX3_mergeRuns_34 : decode (mB M_X3_mergeRuns) 34 = .ok (.invokevirtual 109, 3) := by decide +kernel
theorem dX3_mergeRuns_37 : decode (mB M_X3_mergeRuns) 37 = .ok (.aload_n 0, 1) := by decide +kernel
theorem dX3_mergeRuns_38 : decode (mB M_X3_mergeRuns) 38 = .ok (.iload_n 1, 1) := by decide +kernel
theorem dX3_mergeRuns_39 : decode (mB M_X3_mergeRuns) 39 = .ok (.iconst 1, 1) := by decide +kernel
theorem dX3_mergeRuns_40 : decode (mB M_X3_mergeRuns) 40 = .ok (.iadd, 1) := by decide +kernel
theorem dX3_mergeRuns_41 : decode (mB M_X3_mergeRuns) 41 = .ok (.invokevirtual 109, 3) := by decide +kernel
theorem dX3_mergeRuns_44 : decode (mB M_X3_mergeRuns) 44 = .ok (.iadd, 1) := by decide +kernel
theorem dX3_mergeRuns_45 : decode (mB M_X3_mergeRuns) 45 = .ok (.iload_n 3, 1) := by decide +kernel
theorem dX3_mergeRuns_46 : decode (mB M_X3_mergeRuns) 46 = .ok (.isub, 1) := by decide +kernel
theorem dX3_mergeRuns_47 : decode (mB M_X3_mergeRuns) 47 = .ok (.istore 4, 2) := by decide +kernel
theorem dX3_mergeRuns_49 : decode (mB M_X3_mergeRuns) 49 = .ok (.aload_n 0, 1) := by decide +kernel
theorem dX3_mergeRuns_50 : decode (mB M_X3_mergeRuns) 50 = .ok (.getfield 27, 3) := by decide +kernel
theorem dX3_mergeRuns_53 : decode (mB M_X3_mergeRuns) 53 = .ok (.aload_n 0, 1) := by decide +kernel
theorem dX3_mergeRuns_54 : decode (mB M_X3_mergeRuns) 54 = .ok (.iload_n 1, 1) := by decide +kernel
theorem dX3_mergeRuns_55 : decode (mB M_X3_mergeRuns) 55 = .ok (.iconst 1, 1) := by decide +kernel
theorem dX3_mergeRuns_56 : decode (mB M_X3_mergeRuns) 56 = .ok (.iadd, 1) := by decide +kernel
theorem dX3_mergeRuns_57 : decode (mB M_X3_mergeRuns) 57 = .ok (.invokevirtual 69, 3) := by decide +kernel
theorem dX3_mergeRuns_60 : decode (mB M_X3_mergeRuns) 60 = .ok (.aload_n 0, 1) := by decide +kernel
theorem dX3_mergeRuns_61 : decode (mB M_X3_mergeRuns) 61 = .ok (.iload_n 1, 1) := by decide +kernel
theorem dX3_mergeRuns_62 : decode (mB M_X3_mergeRuns) 62 = .ok (.invokevirtual 65, 3) := by decide +kernel
theorem dX3_mergeRuns_65 : decode (mB M_X3_mergeRuns) 65 = .ok (.aload_n 0, 1) := by decide +kernel
theorem dX3_mergeRuns_66 : decode (mB M_X3_mergeRuns) 66 = .ok (.getfield 18, 3) := by decide +kernel
theorem dX3_mergeRuns_69 : decode (mB M_X3_mergeRuns) 69 = .ok (.getfield 122, 3) := by decide +kernel
theorem dX3_mergeRuns_72 : decode (mB M_X3_mergeRuns) 72 = .ok (.invokevirtual 51, 3) := by decide +kernel
theorem dX3_mergeRuns_75 : decode (mB M_X3_mergeRuns) 75 = .ok (.aload_n 0, 1) := by decide +kernel
theorem dX3_mergeRuns_76 : decode (mB M_X3_mergeRuns) 76 = .ok (.dup, 1) := by decide +kernel
theorem dX3_mergeRuns_77 : decode (mB M_X3_mergeRuns) 77 = .ok (.getfield 44, 3) := by decide +kernel
theorem dX3_mergeRuns_80 : decode (mB M_X3_mergeRuns) 80 = .ok (.iload 4, 2) := by decide +kernel
theorem dX3_mergeRuns_82 : decode (mB M_X3_mergeRuns) 82 = .ok (.iadd, 1) := by decide +kernel
theorem dX3_mergeRuns_83 : decode (mB M_X3_mergeRuns) 83 = .ok (.putfield 44, 3) := by decide +kernel
theorem dX3_mergeRuns_86 : decode (mB M_X3_mergeRuns) 86 = .ok (.iload_n 3, 1) := by decide +kernel
theorem dX3_mergeRuns_87 : decode (mB M_X3_mergeRuns) 87 = .ok (.ifCond .le 7, 3) := by decide +kernel
theorem dX3_mergeRuns_90 : decode (mB M_X3_mergeRuns) 90 = .ok (.iconst 1, 1) := by decide +kernel
theorem dX3_mergeRuns_91 : decode (mB M_X3_mergeRuns) 91 = .ok (.goto 4, 3) := by decide +kernel
theorem dX3_mergeRuns_94 : decode (mB M_X3_mergeRuns) 94 = .ok (.iconst 2, 1) := by decide +kernel
theorem dX3_mergeRuns_95 : decode (mB M_X3_mergeRuns) 95 = .ok (.istore 5, 2) := by decide +kernel
theorem dX3_mergeRuns_97 : decode (mB M_X3_mergeRuns) 97 = .ok (.iload_n 2, 1) := by decide +kernel
theorem dX3_mergeRuns_98 : decode (mB M_X3_mergeRuns) 98 = .ok (.istore 6, 2) := by decide +kernel
theorem dX3_mergeRuns_100 : decode (mB M_X3_mergeRuns) 100 = .ok (.iload 6, 2) := by decide +kernel
theorem dX3_mergeRuns_102 : decode (mB M_X3_mergeRuns) 102 = .ok (.iload 5, 2) := by decide +kernel
theorem dX3_mergeRuns_104 : decode (mB M_X3_mergeRuns) 104 = .ok (.iadd, 1) := by decide +kernel
theorem dX3_mergeRuns_105 : decode (mB M_X3_mergeRuns) 105 = .ok (.aload_n 0, 1) := by decide +kernel
theorem dX3_mergeRuns_106 : decode (mB M_X3_mergeRuns) 106 = .ok (.getfield 34, 3) := by decide +kernel
theorem dX3_mergeRuns_109 : decode (mB M_X3_mergeRuns) 109 = .ok (.if_icmp .ge 29, 3) := by decide +kernel
theorem dX3_mergeRuns_112 : decode (mB M_X3_mergeRuns) 112 = .ok (.aload_n 0, 1) := by decide +kernel
theorem dX3_mergeRuns_113 : decode (mB M_X3_mergeRuns) 113 = .ok (.getfield 9, 3) := by decide +kernel
theorem dX3_mergeRuns_116 : decode (mB M_X3_mergeRuns) 116 = .ok (.iload 6, 2) := by decide +kernel
theorem dX3_mergeRuns_118 : decode (mB M_X3_mergeRuns) 118 = .ok (.aload_n 0, 1) := by decide +kernel
theorem dX3_mergeRuns_119 : decode (mB M_X3_mergeRuns) 119 = .ok (.getfield 9, 3) := by decide +kernel
theorem dX3_mergeRuns_122 : decode (mB M_X3_mergeRuns) 122 = .ok (.iload 6, 2) := by decide +kernel
theorem dX3_mergeRuns_124 : decode (mB M_X3_mergeRuns) 124 = .ok (.iload 5, 2) := by decide +kernel
theorem dX3_mergeRuns_126 : decode (mB M_X3_mergeRuns) 126 = .ok (.iadd, 1) := by decide +kernel
theorem dX3_mergeRuns_127 : decode (mB M_X3_mergeRuns) 127 = .ok (.iaload, 1) := by decide +kernel
theorem dX3_mergeRuns_128 : decode (mB M_X3_mergeRuns) 128 = .ok (.iload 4, 2) := by decide +kernel
theorem dX3_mergeRuns_130 : decode (mB M_X3_mergeRuns) 130 = .ok (.isub, 1) := by decide +kernel
theorem dX3_mergeRuns_131 : decode (mB M_X3_mergeRuns) 131 = .ok (.iastore, 1) := by decide +kernel
theorem dX3_mergeRuns_132 : decode (mB M_X3_mergeRuns) 132 = .ok (.iinc 6 1, 3) := by decide +kernel
theorem dX3_mergeRuns_135 : decode (mB M_X3_mergeRuns) 135 = .ok (.goto (-35), 3) := by decide +kernel
theorem dX3_mergeRuns_138 : decode (mB M_X3_mergeRuns) 138 = .ok (.aload_n 0, 1) := by decide +kernel
theorem dX3_mergeRuns_139 : decode (mB M_X3_mergeRuns) 139 = .ok (.dup, 1) := by decide +kernel
theorem dX3_mergeRuns_140 : decode (mB M_X3_mergeRuns) 140 = .ok (.getfield 34, 3) := by decide +kernel
theorem dX3_mergeRuns_143 : decode (mB M_X3_mergeRuns) 143 = .ok (.iload 5, 2) := by decide +kernel
theorem dX3_mergeRuns_145 : decode (mB M_X3_mergeRuns) 145 = .ok (.isub, 1) := by decide +kernel
theorem dX3_mergeRuns_146 : decode (mB M_X3_mergeRuns) 146 = .ok (.putfield 34, 3) := by decide +kernel
theorem dX3_mergeRuns_149 : decode (mB M_X3_mergeRuns) 149 = .ok (.iload_n 3, 1) := by decide +kernel
theorem dX3_mergeRuns_150 : decode (mB M_X3_mergeRuns) 150 = .ok (.ireturn, 1) := by decide +kernel
def c_X3_mergeRuns_100 (v0 : Nat) (k100 : HP → Int32 → Int32 → Int32 → Int32 → Option (Int32 × HP)) (h : HP) (v3 : Int32) (v4 : Int32) (v5 : Int32) (v6 : Int32) : Option (Int32 × HP) :=
  (gI 3 4 h v0).bind fun x1 => if x1 ≤ (v6 + v5) then (gI 3 4 h v0).bind fun x3 => (pI 3 4 h v0 (x3 - v5)).bind fun h4 => some (v3, h4) else (gR 3 2 h v0).bind fun x5 => (gR 3 2 h v0).bind fun x6 => (aI h x6 (v6 + v5)).bind fun x7 => (wI h x5 v6 (x7 - v4)).bind fun h8 => k100 h8 v3 v4 v5 (v6 + 1)
def b_X3_mergeRuns_100 (v0 : Nat) : Nat → HP → Int32 → Int32 → Int32 → Int32 → Option (Int32 × HP)
  | 0, _, _, _, _, _ => none
  | n + 1, h, v3, v4, v5, v6 => c_X3_mergeRuns_100 v0 (b_X3_mergeRuns_100 v0 n) h v3 v4 v5 v6
def b_X3_mergeRuns_0 (v0 : Nat) (v1 : Int32) (h : HP) : Option (Int32 × HP) :=
  (gI 3 4 h v0).bind fun x1 => if ((x1 - 2) - v1) < 0 then some (0, h) else if 0 ≤ v1 then (gR 3 0 h v0).bind fun x4 => (f_X0_clean h x4 v0 v1 (v1 + 1)).bind fun y5 => (f_X3_sizeOf y5.2 v0 v1).bind fun y6 => (f_X3_sizeOf y5.2 v0 (v1 + 1)).bind fun y7 => (gR 3 1 y5.2 v0).bind fun x8 => (f_X3_startOf y5.2 v0 (v1 + 1)).bind fun y9 => (f_X3_endOf y5.2 v0 v1).bind fun y10 => (gR 3 0 y5.2 v0).bind fun x11 => (gR 0 0 y5.2 x11).bind fun x12 => (f_X6_replace y5.2 x8 y9 y10 x12).bind fun y13 => (gI 3 7 y13 v0).bind fun x14 => (pI 3 7 y13 v0 (x14 + ((y6 + y7) - y5.1))).bind fun h15 => if y5.1 ≤ 0 then b_X3_mergeRuns_100 v0 FU h15 y5.1 ((y6 + y7) - y5.1) 2 ((x1 - 2) - v1) else b_X3_mergeRuns_100 v0 FU h15 y5.1 ((y6 + y7) - y5.1) 1 ((x1 - 2) - v1) else some (0, h)
def f_X3_mergeRuns (h : HP) (v0 : Nat) (v1 : Int32) : Option (Int32 × HP) := (kO 3 h v0).bind fun _ => b_X3_mergeRuns_0 v0 v1 h
theorem wc_X3_mergeRuns_100 {l : Launch} {X : SCR} {Q : PST} {bc bs : Nat} {res : Int32 × HP} (hQ : ∀ sz', Q (.inl (some (.int res.1))) res.2 sz') {v0 : Nat} {k100 : HP → Int32 → Int32 → Int32 → Int32 → Option (Int32 × HP)} (hk100 : ∀ (h : HP) (v3 : Int32) (v4 : Int32) (v5 : Int32) (v6 : Int32) (sz : Nat), k100 h v3 v4 v5 v6 = some res → SP l X M_X3_mergeRuns 100 [(0, .ref v0), (3, .int v3), (4, .int v4), (5, .int v5), (6, .int v6)] [] h sz bc bs Q) {h : HP} {v3 : Int32} {v4 : Int32} {v5 : Int32} {v6 : Int32} {sz : Nat} (hf : c_X3_mergeRuns_100 v0 k100 h v3 v4 v5 v6 = some res) : SP l X M_X3_mergeRuns 100 [(0, .ref v0), (3, .int v3), (4, .int v4), (5, .int v5), (6, .int v6)] [] h sz bc bs Q := by
  rw [c_X3_mergeRuns_100] at hf
  refine sp_iload (pc := 100) dX3_mergeRuns_100 4 rfl ?_
  refine sp_iload (pc := 102) dX3_mergeRuns_102 3 rfl ?_
  refine sp_iadd (pc := 104) dX3_mergeRuns_104 ?_
  refine sp_aload_n (pc := 105) dX3_mergeRuns_105 0 rfl ?_
  obtain ⟨x1, ex1, hf⟩ := ob hf
  refine sp_gI (pc := 106) fl_RX3_34 dX3_mergeRuns_106 ex1 ?_
  refine sp_icmp_ge (pc := 109) (tgt := 138) dX3_mergeRuns_109 (by decide) (fun c2 => ?_) (fun c2 => ?_)
  · rw [if_pos c2] at hf
    refine sp_aload_n (pc := 138) dX3_mergeRuns_138 0 rfl ?_
    refine sp_dup (pc := 139) dX3_mergeRuns_139 rfl ?_
    obtain ⟨x3, ex3, hf⟩ := ob hf
    refine sp_gI (pc := 140) fl_RX3_34 dX3_mergeRuns_140 ex3 ?_
    refine sp_iload (pc := 143) dX3_mergeRuns_143 3 rfl ?_
    refine sp_isub (pc := 145) dX3_mergeRuns_145 ?_
    obtain ⟨h4, eh4, hf⟩ := ob hf
    refine sp_pI (pc := 146) pf_RX3_34 dX3_mergeRuns_146 eh4 (fun sz => ?_)
    refine sp_iload_n (pc := 149) dX3_mergeRuns_149 1 rfl ?_
    obtain rfl := Option.some.inj hf
    exact sp_ireturn (pc := 150) dX3_mergeRuns_150 rfl rfl (hQ _)
  · rw [if_neg c2] at hf
    refine sp_aload_n (pc := 112) dX3_mergeRuns_112 0 rfl ?_
    obtain ⟨x5, ex5, hf⟩ := ob hf
    refine sp_gR (pc := 113) fl_RX3_9 dX3_mergeRuns_113 ex5 ?_
    refine sp_iload (pc := 116) dX3_mergeRuns_116 4 rfl ?_
    refine sp_aload_n (pc := 118) dX3_mergeRuns_118 0 rfl ?_
    obtain ⟨x6, ex6, hf⟩ := ob hf
    refine sp_gR (pc := 119) fl_RX3_9 dX3_mergeRuns_119 ex6 ?_
    refine sp_iload (pc := 122) dX3_mergeRuns_122 4 rfl ?_
    refine sp_iload (pc := 124) dX3_mergeRuns_124 3 rfl ?_
    refine sp_iadd (pc := 126) dX3_mergeRuns_126 ?_
    obtain ⟨x7, ex7, hf⟩ := ob hf
    refine sp_aI (pc := 127) dX3_mergeRuns_127 ex7 ?_
    refine sp_iload (pc := 128) dX3_mergeRuns_128 2 rfl ?_
    refine sp_isub (pc := 130) dX3_mergeRuns_130 ?_
    obtain ⟨h8, eh8, hf⟩ := ob hf
    refine sp_wI (pc := 131) dX3_mergeRuns_131 eh8 (fun sz => ?_)
    refine sp_iinc (pc := 132) (v := v6 + 1) (lv' := [(6, .int (v6 + 1)), (0, .ref v0), (3, .int v3), (4, .int v4), (5, .int v5)]) dX3_mergeRuns_132 4 rfl rfl (by decide) rfl ?_
    refine sp_goto (pc := 135) (tgt := 100) dX3_mergeRuns_135 (by decide) ?_
    exact sp_sub [1, 2, 3, 4, 0] rfl (hk100 _ _ _ _ _ _ hf)

theorem w_X3_mergeRuns_100 {l : Launch} {X : SCR} {Q : PST} {bc bs : Nat} {res : Int32 × HP} (hQ : ∀ sz', Q (.inl (some (.int res.1))) res.2 sz') {v0 : Nat} : ∀ (n : Nat) {h : HP} {v3 : Int32} {v4 : Int32} {v5 : Int32} {v6 : Int32} {sz : Nat}, b_X3_mergeRuns_100 v0 n h v3 v4 v5 v6 = some res → SP l X M_X3_mergeRuns 100 [(0, .ref v0), (3, .int v3), (4, .int v4), (5, .int v5), (6, .int v6)] [] h sz bc bs Q := by
  intro n
  induction n with
  | zero =>
    intro h v3 v4 v5 v6 sz hf
    rw [b_X3_mergeRuns_100] at hf
    cases hf
  | succ n ih =>
    intro h v3 v4 v5 v6 sz hf
    rw [b_X3_mergeRuns_100] at hf
    exact wc_X3_mergeRuns_100 hQ (fun h v3 v4 v5 v6 sz hf => ih hf) hf

theorem w_X3_mergeRuns_0 {l : Launch} {X : SCR} {Q : PST} {bc bs : Nat} {res : Int32 × HP} {h : HP} (hQ : ∀ sz', Q (.inl (some (.int res.1))) res.2 sz') {v0 : Nat} {v1 : Int32} {sz : Nat} (hf : b_X3_mergeRuns_0 v0 v1 h  = some res) : SP l X M_X3_mergeRuns 0 [(0, .ref v0), (1, .int v1)] [] h sz bc bs Q := by
  rw [b_X3_mergeRuns_0] at hf
  refine sp_aload_n (pc := 0) dX3_mergeRuns_0 0 rfl ?_
  obtain ⟨x1, ex1, hf⟩ := ob hf
  refine sp_gI (pc := 1) fl_RX3_34 dX3_mergeRuns_1 ex1 ?_
  refine sp_iconst (pc := 4) (v := 2) dX3_mergeRuns_4 (by decide) ?_
  refine sp_isub (pc := 5) dX3_mergeRuns_5 ?_
  refine sp_iload_n (pc := 6) dX3_mergeRuns_6 1 rfl ?_
  refine sp_isub (pc := 7) dX3_mergeRuns_7 ?_
  refine sp_istore_n (pc := 8) (lv' := [(2, .int ((x1 - 2) - v1)), (0, .ref v0), (1, .int v1)]) dX3_mergeRuns_8 (by decide) rfl ?_
  refine sp_iload_n (pc := 9) dX3_mergeRuns_9 0 rfl ?_
  refine sp_if_lt (pc := 10) (tgt := 17) dX3_mergeRuns_10 (by decide) (fun c2 => ?_) (fun c2 => ?_)
  · rw [if_pos c2] at hf
    refine sp_iconst (pc := 17) (v := 0) dX3_mergeRuns_17 (by decide) ?_
    obtain rfl := Option.some.inj hf
    exact sp_ireturn (pc := 18) dX3_mergeRuns_18 rfl rfl (hQ _)
  · rw [if_neg c2] at hf
    refine sp_iload_n (pc := 13) dX3_mergeRuns_13 2 rfl ?_
    refine sp_if_ge (pc := 14) (tgt := 19) dX3_mergeRuns_14 (by decide) (fun c3 => ?_) (fun c3 => ?_)
    · rw [if_pos c3] at hf
      refine sp_aload_n (pc := 19) dX3_mergeRuns_19 1 rfl ?_
      obtain ⟨x4, ex4, hf⟩ := ob hf
      refine sp_gR (pc := 20) fl_RX3_18 dX3_mergeRuns_20 ex4 ?_
      refine sp_aload_n (pc := 23) dX3_mergeRuns_23 1 rfl ?_
      refine sp_iload_n (pc := 24) dX3_mergeRuns_24 2 rfl ?_
      refine sp_iload_n (pc := 25) dX3_mergeRuns_25 2 rfl ?_
      refine sp_iconst (pc := 26) (v := 1) dX3_mergeRuns_26 (by decide) ?_
      refine sp_iadd (pc := 27) dX3_mergeRuns_27 ?_
      obtain ⟨y5, ey5, hf⟩ := ob hf
      obtain ⟨fsy5, hoy5⟩ := o_X0_clean ey5
      refine sp_callVi (pc := 28) (z := M_X0_clean) (As := [.ref v0, .int v1, .int (v1 + 1)]) (b := x4) (bc2 := bc) (bs2 := bs) (m_X0_clean (Q := _) (fun sz => ⟨y5.1, rfl, ?_⟩) ey5) rfl dX3_mergeRuns_28 hoy5 rfl rfl ck_X3_mergeRuns_112 (Nat.le_of_ble_eq_true rfl) rfl rfl rfl
      refine sp_istore_n (pc := 31) (lv' := [(3, .int y5.1), (2, .int ((x1 - 2) - v1)), (0, .ref v0), (1, .int v1)]) dX3_mergeRuns_31 (by decide) rfl ?_
      refine sp_aload_n (pc := 32) dX3_mergeRuns_32 2 rfl ?_
      refine sp_iload_n (pc := 33) dX3_mergeRuns_33 3 rfl ?_
      obtain ⟨y6, ey6, hf⟩ := ob hf
      obtain ⟨fsy6, hoy6⟩ := o_X3_sizeOf ey6
      refine sp_callVi (pc := 34) (z := M_X3_sizeOf) (As := [.int v1]) (b := v0) (bc2 := bc) (bs2 := bs) (m_X3_sizeOf (Q := _) (fun sz => ⟨y6, rfl, ?_⟩) ey6) rfl dX3_mergeRuns_34 hoy6 rfl rfl ck_X3_mergeRuns_109 (Nat.le_of_ble_eq_true rfl) rfl rfl rfl
      refine sp_aload_n (pc := 37) dX3_mergeRuns_37 2 rfl ?_
      refine sp_iload_n (pc := 38) dX3_mergeRuns_38 3 rfl ?_
      refine sp_iconst (pc := 39) (v := 1) dX3_mergeRuns_39 (by decide) ?_
      refine sp_iadd (pc := 40) dX3_mergeRuns_40 ?_
      obtain ⟨y7, ey7, hf⟩ := ob hf
      obtain ⟨fsy7, hoy7⟩ := o_X3_sizeOf ey7
      refine sp_callVi (pc := 41) (z := M_X3_sizeOf) (As := [.int (v1 + 1)]) (b := v0) (bc2 := bc) (bs2 := bs) (m_X3_sizeOf (Q := _) (fun sz => ⟨y7, rfl, ?_⟩) ey7) rfl dX3_mergeRuns_41 hoy7 rfl rfl ck_X3_mergeRuns_109 (Nat.le_of_ble_eq_true rfl) rfl rfl rfl
      refine sp_iadd (pc := 44) dX3_mergeRuns_44 ?_
      refine sp_iload_n (pc := 45) dX3_mergeRuns_45 0 rfl ?_
      refine sp_isub (pc := 46) dX3_mergeRuns_46 ?_
      refine sp_istore (pc := 47) (lv' := [(4, .int ((y6 + y7) - y5.1)), (3, .int y5.1), (2, .int ((x1 - 2) - v1)), (0, .ref v0), (1, .int v1)]) dX3_mergeRuns_47 (by decide) rfl ?_
      refine sp_aload_n (pc := 49) dX3_mergeRuns_49 3 rfl ?_
      obtain ⟨x8, ex8, hf⟩ := ob hf
      refine sp_gR (pc := 50) fl_RX3_27 dX3_mergeRuns_50 ex8 ?_
      refine sp_aload_n (pc := 53) dX3_mergeRuns_53 3 rfl ?_
      refine sp_iload_n (pc := 54) dX3_mergeRuns_54 4 rfl ?_
      refine sp_iconst (pc := 55) (v := 1) dX3_mergeRuns_55 (by decide) ?_
      refine sp_iadd (pc := 56) dX3_mergeRuns_56 ?_
      obtain ⟨y9, ey9, hf⟩ := ob hf
      obtain ⟨fsy9, hoy9⟩ := o_X3_startOf ey9
      refine sp_callVi (pc := 57) (z := M_X3_startOf) (As := [.int (v1 + 1)]) (b := v0) (bc2 := bc) (bs2 := bs) (m_X3_startOf (Q := _) (fun sz => ⟨y9, rfl, ?_⟩) ey9) rfl dX3_mergeRuns_57 hoy9 rfl rfl ck_X3_mergeRuns_69 (Nat.le_of_ble_eq_true rfl) rfl rfl rfl
      refine sp_aload_n (pc := 60) dX3_mergeRuns_60 3 rfl ?_
      refine sp_iload_n (pc := 61) dX3_mergeRuns_61 4 rfl ?_
      obtain ⟨y10, ey10, hf⟩ := ob hf
      obtain ⟨fsy10, hoy10⟩ := o_X3_endOf ey10
      refine sp_callVi (pc := 62) (z := M_X3_endOf) (As := [.int v1]) (b := v0) (bc2 := bc) (bs2 := bs) (m_X3_endOf (Q := _) (fun sz => ⟨y10, rfl, ?_⟩) ey10) rfl dX3_mergeRuns_62 hoy10 rfl rfl ck_X3_mergeRuns_65 (Nat.le_of_ble_eq_true rfl) rfl rfl rfl
      refine sp_aload_n (pc := 65) dX3_mergeRuns_65 3 rfl ?_
      obtain ⟨x11, ex11, hf⟩ := ob hf
      refine sp_gR (pc := 66) fl_RX3_18 dX3_mergeRuns_66 ex11 ?_
      obtain ⟨x12, ex12, hf⟩ := ob hf
      refine sp_gR (pc := 69) fl_RX3_122 dX3_mergeRuns_69 ex12 ?_
      obtain ⟨y13, ey13, hf⟩ := ob hf
      obtain ⟨fsy13, hoy13⟩ := o_X6_replace ey13
      refine sp_callVv (pc := 72) (z := M_X6_replace) (As := [.int y9, .int y10, .ref x12]) (b := x8) (bc2 := bc) (bs2 := bs) (m_X6_replace (Q := _) (fun sz => ⟨(), rfl, ?_⟩) ey13) rfl dX3_mergeRuns_72 hoy13 rfl rfl ck_X3_mergeRuns_51 (Nat.le_of_ble_eq_true rfl) rfl rfl rfl
      refine sp_aload_n (pc := 75) dX3_mergeRuns_75 3 rfl ?_
      refine sp_dup (pc := 76) dX3_mergeRuns_76 rfl ?_
      obtain ⟨x14, ex14, hf⟩ := ob hf
      refine sp_gI (pc := 77) fl_RX3_44 dX3_mergeRuns_77 ex14 ?_
      refine sp_iload (pc := 80) dX3_mergeRuns_80 0 rfl ?_
      refine sp_iadd (pc := 82) dX3_mergeRuns_82 ?_
      obtain ⟨h15, eh15, hf⟩ := ob hf
      refine sp_pI (pc := 83) pf_RX3_44 dX3_mergeRuns_83 eh15 (fun sz => ?_)
      refine sp_iload_n (pc := 86) dX3_mergeRuns_86 1 rfl ?_
      refine sp_if_le (pc := 87) (tgt := 94) dX3_mergeRuns_87 (by decide) (fun c16 => ?_) (fun c16 => ?_)
      · rw [if_pos c16] at hf
        refine sp_iconst (pc := 94) (v := 2) dX3_mergeRuns_94 (by decide) ?_
        refine sp_istore (pc := 95) (lv' := [(5, .int 2), (4, .int ((y6 + y7) - y5.1)), (3, .int y5.1), (2, .int ((x1 - 2) - v1)), (0, .ref v0), (1, .int v1)]) dX3_mergeRuns_95 (by decide) rfl ?_
        refine sp_iload_n (pc := 97) dX3_mergeRuns_97 3 rfl ?_
        refine sp_istore (pc := 98) (lv' := [(6, .int ((x1 - 2) - v1)), (5, .int 2), (4, .int ((y6 + y7) - y5.1)), (3, .int y5.1), (2, .int ((x1 - 2) - v1)), (0, .ref v0), (1, .int v1)]) dX3_mergeRuns_98 (by decide) rfl ?_
        exact sp_sub [5, 3, 2, 1, 0] rfl (w_X3_mergeRuns_100 hQ FU hf)
      · rw [if_neg c16] at hf
        refine sp_iconst (pc := 90) (v := 1) dX3_mergeRuns_90 (by decide) ?_
        refine sp_goto (pc := 91) (tgt := 95) dX3_mergeRuns_91 (by decide) ?_
        refine sp_istore (pc := 95) (lv' := [(5, .int 1), (4, .int ((y6 + y7) - y5.1)), (3, .int y5.1), (2, .int ((x1 - 2) - v1)), (0, .ref v0), (1, .int v1)]) dX3_mergeRuns_95 (by decide) rfl ?_
        refine sp_iload_n (pc := 97) dX3_mergeRuns_97 3 rfl ?_
        refine sp_istore (pc := 98) (lv' := [(6, .int ((x1 - 2) - v1)), (5, .int 1), (4, .int ((y6 + y7) - y5.1)), (3, .int y5.1), (2, .int ((x1 - 2) - v1)), (0, .ref v0), (1, .int v1)]) dX3_mergeRuns_98 (by decide) rfl ?_
        exact sp_sub [5, 3, 2, 1, 0] rfl (w_X3_mergeRuns_100 hQ FU hf)
    · rw [if_neg c3] at hf
      refine sp_iconst (pc := 17) (v := 0) dX3_mergeRuns_17 (by decide) ?_
      obtain rfl := Option.some.inj hf
      exact sp_ireturn (pc := 18) dX3_mergeRuns_18 rfl rfl (hQ _)

theorem o_X3_mergeRuns {h : HP} {v0 : Nat} {v1 : Int32} {res : Int32 × HP} (hf : f_X3_mergeRuns h v0 v1 = some res) : ∃ fs, h v0 = some (.inr (3, fs)) := by
  obtain ⟨u, eu, -⟩ := ob hf
  exact kO_spec eu

theorem m_X3_mergeRuns {l : Launch} {Q : PST} {h : HP} {v0 : Nat} {v1 : Int32} {sz : Nat} {res : Int32 × HP} (hQ : ∀ sz', Q (.inl (some (.int res.1))) res.2 sz') (hf : f_X3_mergeRuns h v0 v1 = some res) : MM l M_X3_mergeRuns [.ref v0, .int v1] h sz Q := by
  obtain ⟨u, eu, hf⟩ := ob hf
  exact MM_of wok_X3_mergeRuns (by decide +kernel) (Nat.le_of_ble_eq_true rfl) ((w_X3_mergeRuns_0 hQ hf))

theorem dX4_init_0 : decode (mB M_X4_init) 0 = .ok (.aload_n 0, 1) := by decide +kernel
theorem dX4_init_1 : decode (mB M_X4_init) 1 = .ok (.invokespecial 3, 3) := by decide +kernel
theorem dX4_init_4 : decode (mB M_X4_init) 4 = .ok (.aload_n 0, 1) := by decide +kernel
theorem dX4_init_5 : decode (mB M_X4_init) 5 = .ok (.bipush 120, 2) := by decide +kernel
theorem dX4_init_7 : decode (mB M_X4_init) 7 = .ok (.newarray .int, 2) := by decide +kernel
theorem dX4_init_9 : decode (mB M_X4_init) 9 = .ok (.putfield 9, 3) := by decide +kernel
theorem dX4_init_12 : decode (mB M_X4_init) 12 = .ok (.return_, 1) := by decide +kernel
def b_X4_init_0 (v0 : Nat) (h : HP) (q bc bs : Nat) : Option (HP × Nat) :=
  (alN bc bs 120).bind fun b1 => (nwI h q 120).bind fun h2 => (pR 4 0 h2 v0 q).bind fun h3 => some (h3, q + 1)
def f_X4_init (h : HP) (q : Nat) (v0 : Nat) : Option (HP × Nat) := b_X4_init_0 v0 h q 1 120
theorem w_X4_init_0 {l : Launch} {X : SCR} {Q : PST} {res : HP × Nat} {h : HP} {q bc bs : Nat} (hQ : Q (.inl none) res.1 res.2) {v0 : Nat} (hf : b_X4_init_0 v0 h q bc bs  = some res) : SP l X M_X4_init 0 [(0, .ref v0)] [] h q bc bs Q := by
  rw [b_X4_init_0] at hf
  refine sp_aload_n (pc := 0) dX4_init_0 0 rfl ?_
  refine sp_objInit (pc := 1) bk_100 bk_30 bk_31 dX4_init_1 (by decide) (Nat.le_of_ble_eq_true rfl) ?_
  refine sp_aload_n (pc := 4) dX4_init_4 0 rfl ?_
  refine sp_bipush (pc := 5) (v := 120) dX4_init_5 (by decide) ?_
  obtain ⟨b1, eb1, hf⟩ := ob hf
  obtain ⟨h2, eh2, hf⟩ := ob hf
  obtain rfl := Option.some.inj eh2
  obtain ⟨g1b1, g2b1, g3b1, g4b1⟩ := alN_spec eb1
  refine sp_newaI (pc := 7) (bc2 := b1.1) (bs2 := b1.2) bk_63 dX4_init_7 g1b1 rfl (Nat.le_trans (Nat.mul_le_mul_left _ (by decide)) g2b1) g3b1 g4b1 (fun hfr => ?_)
  obtain ⟨h3, eh3, hf⟩ := ob hf
  refine sp_pRF (pc := 9) pf_RX4_9 rfl dX4_init_9 rfl rfl eh3 ?_
  obtain rfl := Option.some.inj hf
  exact sp_return (pc := 12) dX4_init_12 rfl hQ

theorem m_X4_init {l : Launch} {Q : PST} {h : HP} {v0 : Nat} {sz : Nat} {res : HP × Nat} (hQ : Q (.inl none) res.1 res.2) (hf : f_X4_init h sz v0 = some res) : MM l M_X4_init [.ref v0] h sz Q := by
  rw [f_X4_init] at hf
  exact MM_of wok_X4_init (by decide +kernel) (Nat.le_of_ble_eq_true rfl) ((w_X4_init_0 hQ hf))

theorem dX5_init_0 : decode (mB M_X5_init) 0 = .ok (.aload_n 0, 1) := by decide +kernel
theorem dX5_init_1 : decode (mB M_X5_init) 1 = .ok (.invokespecial 3, 3) := by decide +kernel
theorem dX5_init_4 : decode (mB M_X5_init) 4 = .ok (.aload_n 0, 1) := by decide +kernel
theorem dX5_init_5 : decode (mB M_X5_init) 5 = .ok (.bipush 100, 2) := by decide +kernel
theorem dX5_init_7 : decode (mB M_X5_init) 7 = .ok (.newarray .int, 2) := by decide +kernel
theorem dX5_init_9 : decode (mB M_X5_init) 9 = .ok (.putfield 9, 3) := by decide +kernel
theorem dX5_init_12 : decode (mB M_X5_init) 12 = .ok (.return_, 1) := by decide +kernel
def b_X5_init_0 (v0 : Nat) (h : HP) (q bc bs : Nat) : Option (HP × Nat) :=
  (alN bc bs 100).bind fun b1 => (nwI h q 100).bind fun h2 => (pR 5 0 h2 v0 q).bind fun h3 => some (h3, q + 1)
def f_X5_init (h : HP) (q : Nat) (v0 : Nat) : Option (HP × Nat) := b_X5_init_0 v0 h q 1 100
theorem w_X5_init_0 {l : Launch} {X : SCR} {Q : PST} {res : HP × Nat} {h : HP} {q bc bs : Nat} (hQ : Q (.inl none) res.1 res.2) {v0 : Nat} (hf : b_X5_init_0 v0 h q bc bs  = some res) : SP l X M_X5_init 0 [(0, .ref v0)] [] h q bc bs Q := by
  rw [b_X5_init_0] at hf
  refine sp_aload_n (pc := 0) dX5_init_0 0 rfl ?_
  refine sp_objInit (pc := 1) bk_167 bk_30 bk_31 dX5_init_1 (by decide) (Nat.le_of_ble_eq_true rfl) ?_
  refine sp_aload_n (pc := 4) dX5_init_4 0 rfl ?_
  refine sp_bipush (pc := 5) (v := 100) dX5_init_5 (by decide) ?_
  obtain ⟨b1, eb1, hf⟩ := ob hf
  obtain ⟨h2, eh2, hf⟩ := ob hf
  obtain rfl := Option.some.inj eh2
  obtain ⟨g1b1, g2b1, g3b1, g4b1⟩ := alN_spec eb1
  refine sp_newaI (pc := 7) (bc2 := b1.1) (bs2 := b1.2) bk_63 dX5_init_7 g1b1 rfl (Nat.le_trans (Nat.mul_le_mul_left _ (by decide)) g2b1) g3b1 g4b1 (fun hfr => ?_)
  obtain ⟨h3, eh3, hf⟩ := ob hf
  refine sp_pRF (pc := 9) pf_RX5_9 rfl dX5_init_9 rfl rfl eh3 ?_
  obtain rfl := Option.some.inj hf
  exact sp_return (pc := 12) dX5_init_12 rfl hQ

theorem m_X5_init {l : Launch} {Q : PST} {h : HP} {v0 : Nat} {sz : Nat} {res : HP × Nat} (hQ : Q (.inl none) res.1 res.2) (hf : f_X5_init h sz v0 = some res) : MM l M_X5_init [.ref v0] h sz Q := by
  rw [f_X5_init] at hf
  exact MM_of wok_X5_init (by decide +kernel) (Nat.le_of_ble_eq_true rfl) ((w_X5_init_0 hQ hf))

theorem dJ7_fill_53178_0 : decode (mB M_J7_fill_53178) 0 = .ok (.iconst 0, 1) := by decide +kernel
theorem dJ7_fill_53178_1 : decode (mB M_J7_fill_53178) 1 = .ok (.istore_n 2, 1) := by decide +kernel
theorem dJ7_fill_53178_2 : decode (mB M_J7_fill_53178) 2 = .ok (.aload_n 0, 1) := by decide +kernel
theorem dJ7_fill_53178_3 : decode (mB M_J7_fill_53178) 3 = .ok (.arraylength, 1) := by decide +kernel
theorem dJ7_fill_53178_4 : decode (mB M_J7_fill_53178) 4 = .ok (.istore_n 3, 1) := by decide +kernel
theorem dJ7_fill_53178_5 : decode (mB M_J7_fill_53178) 5 = .ok (.iload_n 2, 1) := by decide +kernel
theorem dJ7_fill_53178_6 : decode (mB M_J7_fill_53178) 6 = .ok (.iload_n 3, 1) := by decide +kernel
theorem dJ7_fill_53178_7 : decode (mB M_J7_fill_53178) 7 = .ok (.if_icmp .ge 13, 3) := by decide +kernel
theorem dJ7_fill_53178_10 : decode (mB M_J7_fill_53178) 10 = .ok (.aload_n 0, 1) := by decide +kernel
theorem dJ7_fill_53178_11 : decode (mB M_J7_fill_53178) 11 = .ok (.iload_n 2, 1) := by decide +kernel
theorem dJ7_fill_53178_12 : decode (mB M_J7_fill_53178) 12 = .ok (.iload_n 1, 1) := by decide +kernel
theorem dJ7_fill_53178_13 : decode (mB M_J7_fill_53178) 13 = .ok (.iastore, 1) := by decide +kernel
theorem dJ7_fill_53178_14 : decode (mB M_J7_fill_53178) 14 = .ok (.iinc 2 1, 3) := by decide +kernel
theorem dJ7_fill_53178_17 : decode (mB M_J7_fill_53178) 17 = .ok (.goto (-12), 3) := by decide +kernel
theorem dJ7_fill_53178_20 : decode (mB M_J7_fill_53178) 20 = .ok (.return_, 1) := by decide +kernel
def c_J7_fill_53178_5 (v0 : Nat) (v1 : Int32) (k5 : HP → Int32 → Int32 → Option (HP)) (h : HP) (v2 : Int32) (v3 : Int32) : Option (HP) :=
  if v3 ≤ v2 then some h else (wI h v0 v2 v1).bind fun h2 => k5 h2 (v2 + 1) v3
def b_J7_fill_53178_5 (v0 : Nat) (v1 : Int32) : Nat → HP → Int32 → Int32 → Option (HP)
  | 0, _, _, _ => none
  | n + 1, h, v2, v3 => c_J7_fill_53178_5 v0 v1 (b_J7_fill_53178_5 v0 v1 n) h v2 v3
def b_J7_fill_53178_0 (v0 : Nat) (v1 : Int32) (h : HP) : Option (HP) :=
  (aN h v0).bind fun x1 => b_J7_fill_53178_5 v0 v1 FU h 0 x1
def f_J7_fill_53178 (h : HP) (v0 : Nat) (v1 : Int32) : Option (HP) := b_J7_fill_53178_0 v0 v1 h
theorem wc_J7_fill_53178_5 {l : Launch} {X : SCR} {Q : PST} {bc bs : Nat} {res : HP} (hQ : ∀ sz', Q (.inl none) res sz') {v0 : Nat} {v1 : Int32} {k5 : HP → Int32 → Int32 → Option (HP)} (hk5 : ∀ (h : HP) (v2 : Int32) (v3 : Int32) (sz : Nat), k5 h v2 v3 = some res → SP l X M_J7_fill_53178 5 [(0, .ref v0), (1, .int v1), (2, .int v2), (3, .int v3)] [] h sz bc bs Q) {h : HP} {v2 : Int32} {v3 : Int32} {sz : Nat} (hf : c_J7_fill_53178_5 v0 v1 k5 h v2 v3 = some res) : SP l X M_J7_fill_53178 5 [(0, .ref v0), (1, .int v1), (2, .int v2), (3, .int v3)] [] h sz bc bs Q := by
  rw [c_J7_fill_53178_5] at hf
  refine sp_iload_n (pc := 5) dJ7_fill_53178_5 2 rfl ?_
  refine sp_iload_n (pc := 6) dJ7_fill_53178_6 3 rfl ?_
  refine sp_icmp_ge (pc := 7) (tgt := 20) dJ7_fill_53178_7 (by decide) (fun c1 => ?_) (fun c1 => ?_)
  · rw [if_pos c1] at hf
    obtain rfl := Option.some.inj hf
    exact sp_return (pc := 20) dJ7_fill_53178_20 rfl (hQ _)
  · rw [if_neg c1] at hf
    refine sp_aload_n (pc := 10) dJ7_fill_53178_10 0 rfl ?_
    refine sp_iload_n (pc := 11) dJ7_fill_53178_11 2 rfl ?_
    refine sp_iload_n (pc := 12) dJ7_fill_53178_12 1 rfl ?_
    obtain ⟨h2, eh2, hf⟩ := ob hf
    refine sp_wI (pc := 13) dJ7_fill_53178_13 eh2 (fun sz => ?_)
    refine sp_iinc (pc := 14) (v := v2 + 1) (lv' := [(2, .int (v2 + 1)), (0, .ref v0), (1, .int v1), (3, .int v3)]) dJ7_fill_53178_14 2 rfl rfl (by decide) rfl ?_
    refine sp_goto (pc := 17) (tgt := 5) dJ7_fill_53178_17 (by decide) ?_
    exact sp_sub [1, 2, 0, 3] rfl (hk5 _ _ _ _ hf)

theorem w_J7_fill_53178_5 {l : Launch} {X : SCR} {Q : PST} {bc bs : Nat} {res : HP} (hQ : ∀ sz', Q (.inl none) res sz') {v0 : Nat} {v1 : Int32} : ∀ (n : Nat) {h : HP} {v2 : Int32} {v3 : Int32} {sz : Nat}, b_J7_fill_53178_5 v0 v1 n h v2 v3 = some res → SP l X M_J7_fill_53178 5 [(0, .ref v0), (1, .int v1), (2, .int v2), (3, .int v3)] [] h sz bc bs Q := by
  intro n
  induction n with
  | zero =>
    intro h v2 v3 sz hf
    rw [b_J7_fill_53178_5] at hf
    cases hf
  | succ n ih =>
    intro h v2 v3 sz hf
    rw [b_J7_fill_53178_5] at hf
    exact wc_J7_fill_53178_5 hQ (fun h v2 v3 sz hf => ih hf) hf

theorem w_J7_fill_53178_0 {l : Launch} {X : SCR} {Q : PST} {bc bs : Nat} {res : HP} {h : HP} (hQ : ∀ sz', Q (.inl none) res sz') {v0 : Nat} {v1 : Int32} {sz : Nat} (hf : b_J7_fill_53178_0 v0 v1 h  = some res) : SP l X M_J7_fill_53178 0 [(0, .ref v0), (1, .int v1)] [] h sz bc bs Q := by
  rw [b_J7_fill_53178_0] at hf
  refine sp_iconst (pc := 0) (v := 0) dJ7_fill_53178_0 (by decide) ?_
  refine sp_istore_n (pc := 1) (lv' := [(2, .int 0), (0, .ref v0), (1, .int v1)]) dJ7_fill_53178_1 (by decide) rfl ?_
  refine sp_aload_n (pc := 2) dJ7_fill_53178_2 1 rfl ?_
  obtain ⟨x1, ex1, hf⟩ := ob hf
  refine sp_aN (pc := 3) dJ7_fill_53178_3 ex1 ?_
  refine sp_istore_n (pc := 4) (lv' := [(3, .int x1), (2, .int 0), (0, .ref v0), (1, .int v1)]) dJ7_fill_53178_4 (by decide) rfl ?_
  exact sp_sub [2, 3, 1, 0] rfl (w_J7_fill_53178_5 hQ FU hf)

theorem m_J7_fill_53178 {l : Launch} {Q : PST} {h : HP} {v0 : Nat} {v1 : Int32} {sz : Nat} {res : HP} (hQ : ∀ sz', Q (.inl none) res sz') (hf : f_J7_fill_53178 h v0 v1 = some res) : MM l M_J7_fill_53178 [.ref v0, .int v1] h sz Q := by
  rw [f_J7_fill_53178] at hf
  exact MM_of wok_J7_fill_53178 (by decide +kernel) (Nat.le_of_ble_eq_true rfl) ((w_J7_fill_53178_0 hQ hf))

theorem dX5_look_0 : decode (mB M_X5_look) 0 = .ok (.aload_n 0, 1) := by decide +kernel
theorem dX5_look_1 : decode (mB M_X5_look) 1 = .ok (.getfield 9, 3) := by decide +kernel
theorem dX5_look_4 : decode (mB M_X5_look) 4 = .ok (.iconst 0, 1) := by decide +kernel
theorem dX5_look_5 : decode (mB M_X5_look) 5 = .ok (.invokestatic 15, 3) := by decide +kernel
theorem dX5_look_8 : decode (mB M_X5_look) 8 = .ok (.aload_n 1, 1) := by decide +kernel
theorem dX5_look_9 : decode (mB M_X5_look) 9 = .ok (.getfield 21, 3) := by decide +kernel
theorem dX5_look_12 : decode (mB M_X5_look) 12 = .ok (.astore_n 3, 1) := by decide +kernel
theorem dX5_look_13 : decode (mB M_X5_look) 13 = .ok (.iconst 0, 1) := by decide +kernel
theorem dX5_look_14 : decode (mB M_X5_look) 14 = .ok (.istore 4, 2) := by decide +kernel
theorem dX5_look_16 : decode (mB M_X5_look) 16 = .ok (.iload 4, 2) := by decide +kernel
theorem dX5_look_18 : decode (mB M_X5_look) 18 = .ok (.aload_n 3, 1) := by decide +kernel
theorem dX5_look_19 : decode (mB M_X5_look) 19 = .ok (.invokevirtual 27, 3) := by decide +kernel
theorem dX5_look_22 : decode (mB M_X5_look) 22 = .ok (.if_icmp .ge 68, 3) := by decide +kernel
theorem dX5_look_25 : decode (mB M_X5_look) 25 = .ok (.aload_n 3, 1) := by decide +kernel
theorem dX5_look_26 : decode (mB M_X5_look) 26 = .ok (.iload 4, 2) := by decide +kernel
theorem dX5_look_28 : decode (mB M_X5_look) 28 = .ok (.invokevirtual 33, 3) := by decide +kernel
theorem dX5_look_31 : decode (mB M_X5_look) 31 = .ok (.iload_n 2, 1) := by decide +kernel
theorem dX5_look_32 : decode (mB M_X5_look) 32 = .ok (.if_icmp .gt 58, 3) := by decide +kernel
theorem dX5_look_35 : decode (mB M_X5_look) 35 = .ok (.aload_n 3, 1) := by decide +kernel
theorem dX5_look_36 : decode (mB M_X5_look) 36 = .ok (.iload 4, 2) := by decide +kernel
theorem dX5_look_38 : decode (mB M_X5_look) 38 = .ok (.invokevirtual 37, 3) := by decide +kernel
theorem dX5_look_41 : decode (mB M_X5_look) 41 = .ok (.iconst 0, 1) := by decide +kernel
theorem dX5_look_42 : decode (mB M_X5_look) 42 = .ok (.invokestatic 40, 3) := by decide +kernel
theorem dX5_look_45 : decode (mB M_X5_look) 45 = .ok (.istore 5, 2) := by decide +kernel
theorem dX5_look_47 : decode (mB M_X5_look) 47 = .ok (.iload 5, 2) := by decide +kernel
theorem dX5_look_49 : decode (mB M_X5_look) 49 = .ok (.aload_n 3, 1) := by decide +kernel
theorem dX5_look_50 : decode (mB M_X5_look) 50 = .ok (.iload 4, 2) := by decide +kernel
theorem dX5_look_52 : decode (mB M_X5_look) 52 = .ok (.invokevirtual 46, 3) := by decide +kernel
theorem dX5_look_55 : decode (mB M_X5_look) 55 = .ok (.if_icmp .gt 29, 3) := by decide +kernel
theorem dX5_look_58 : decode (mB M_X5_look) 58 = .ok (.iload 5, 2) := by decide +kernel
theorem dX5_look_60 : decode (mB M_X5_look) 60 = .ok (.bipush 100, 2) := by decide +kernel
theorem dX5_look_62 : decode (mB M_X5_look) 62 = .ok (.if_icmp .ge 22, 3) := by decide +kernel
theorem dX5_look_65 : decode (mB M_X5_look) 65 = .ok (.aload_n 0, 1) := by decide +kernel
theorem dX5_look_66 : decode (mB M_X5_look) 66 = .ok (.getfield 9, 3) := by decide +kernel
theorem dX5_look_69 : decode (mB M_X5_look) 69 = .ok (.iload 5, 2) := by decide +kernel
theorem dX5_look_71 : decode (mB M_X5_look) 71 = .ok (.aload_n 3, 1) := by decide +kernel
theorem dX5_look_72 : decode (mB M_X5_look) 72 = .ok (.iload 4, 2) := by decide +kernel
theorem dX5_look_74 : decode (mB M_X5_look) 74 = .ok (.invokevirtual 49, 3) := by decide +kernel
theorem dX5_look_77 : decode (mB M_X5_look) 77 = .ok (.iastore, 1) := by decide +kernel
theorem dX5_look_78 : decode (mB M_X5_look) 78 = .ok (.iinc 5 1, 3) := by decide +kernel
theorem dX5_look_81 : decode (mB M_X5_look) 81 = .ok (.goto (-34), 3) := by decide +kernel
theorem dX5_look_84 : decode (mB M_X5_look) 84 = .ok (.iinc 4 1, 3) := by decide +kernel
theorem dX5_look_87 : decode (mB M_X5_look) 87 = .ok (.goto (-71), 3) := by decide +kernel
theorem dX5_look_90 : decode (mB M_X5_look) 90 = .ok (.return_, 1) := by decide +kernel
def c_X5_look_47 (v0 : Nat) (v2 : Int32) (k16 : HP → Nat → Int32 → Option (HP)) (k47 : HP → Nat → Int32 → Int32 → Option (HP)) (h : HP) (v3 : Nat) (v4 : Int32) (v5 : Int32) : Option (HP) :=
  (f_X6_lastAt h v3 v4).bind fun y1 => if y1 < v5 then k16 h v3 (v4 + 1) else if 100 ≤ v5 then k16 h v3 (v4 + 1) else (gR 5 0 h v0).bind fun x4 => (f_X6_valueAt h v3 v4).bind fun y5 => (wI h x4 v5 y5).bind fun h6 => k47 h6 v3 v4 (v5 + 1)
def b_X5_look_47 (v0 : Nat) (v2 : Int32) (k16 : HP → Nat → Int32 → Option (HP)) : Nat → HP → Nat → Int32 → Int32 → Option (HP)
  | 0, _, _, _, _ => none
  | n + 1, h, v3, v4, v5 => c_X5_look_47 v0 v2 k16 (b_X5_look_47 v0 v2 k16 n) h v3 v4 v5
def c_X5_look_16 (v0 : Nat) (v2 : Int32) (k16 : HP → Nat → Int32 → Option (HP)) (h : HP) (v3 : Nat) (v4 : Int32) : Option (HP) :=
  (f_X6_size h v3).bind fun y1 => if y1 ≤ v4 then some h else (f_X6_numberAt h v3 v4).bind fun y3 => if v2 < y3 then some h else (f_X6_firstAt h v3 v4).bind fun y5 => b_X5_look_47 v0 v2 k16 FU h v3 v4 (jmax y5 0)
def b_X5_look_16 (v0 : Nat) (v2 : Int32) : Nat → HP → Nat → Int32 → Option (HP)
  | 0, _, _, _ => none
  | n + 1, h, v3, v4 => c_X5_look_16 v0 v2 (b_X5_look_16 v0 v2 n) h v3 v4
def b_X5_look_0 (v0 : Nat) (v1 : Nat) (v2 : Int32) (h : HP) : Option (HP) :=
  (gR 5 0 h v0).bind fun x1 => (f_J7_fill_53178 h x1 0).bind fun y2 => (gR 3 1 y2 v1).bind fun x3 => b_X5_look_16 v0 v2 FU y2 x3 0
def f_X5_look (h : HP) (v0 : Nat) (v1 : Nat) (v2 : Int32) : Option (HP) := (kO 5 h v0).bind fun _ => b_X5_look_0 v0 v1 v2 h
theorem wc_X5_look_47 {l : Launch} {X : SCR} {Q : PST} {bc bs : Nat} {res : HP} (hQ : ∀ sz', Q (.inl none) res sz') {v0 : Nat} {v2 : Int32} {k16 : HP → Nat → Int32 → Option (HP)} (hk16 : ∀ (h : HP) (v3 : Nat) (v4 : Int32) (sz : Nat), k16 h v3 v4 = some res → SP l X M_X5_look 16 [(0, .ref v0), (2, .int v2), (3, .ref v3), (4, .int v4)] [] h sz bc bs Q) {k47 : HP → Nat → Int32 → Int32 → Option (HP)} (hk47 : ∀ (h : HP) (v3 : Nat) (v4 : Int32) (v5 : Int32) (sz : Nat), k47 h v3 v4 v5 = some res → SP l X M_X5_look 47 [(0, .ref v0), (2, .int v2), (3, .ref v3), (4, .int v4), (5, .int v5)] [] h sz bc bs Q) {h : HP} {v3 : Nat} {v4 : Int32} {v5 : Int32} {sz : Nat} (hf : c_X5_look_47 v0 v2 k16 k47 h v3 v4 v5 = some res) : SP l X M_X5_look 47 [(0, .ref v0), (2, .int v2), (3, .ref v3), (4, .int v4), (5, .int v5)] [] h sz bc bs Q := by
  rw [c_X5_look_47] at hf
  refine sp_iload (pc := 47) dX5_look_47 4 rfl ?_
  refine sp_aload_n (pc := 49) dX5_look_49 2 rfl ?_
  refine sp_iload (pc := 50) dX5_look_50 3 rfl ?_
  obtain ⟨y1, ey1, hf⟩ := ob hf
  obtain ⟨fsy1, hoy1⟩ := o_X6_lastAt ey1
  refine sp_callVi (pc := 52) (z := M_X6_lastAt) (As := [.int v4]) (b := v3) (bc2 := bc) (bs2 := bs) (m_X6_lastAt (Q := _) (fun sz => ⟨y1, rfl, ?_⟩) ey1) rfl dX5_look_52 hoy1 rfl rfl ck_X5_look_46 (Nat.le_of_ble_eq_true rfl) rfl rfl rfl
  refine sp_icmp_gt (pc := 55) (tgt := 84) dX5_look_55 (by decide) (fun c2 => ?_) (fun c2 => ?_)
  · rw [if_pos c2] at hf
    refine sp_iinc (pc := 84) (v := v4 + 1) (lv' := [(4, .int (v4 + 1)), (0, .ref v0), (2, .int v2), (3, .ref v3), (5, .int v5)]) dX5_look_84 3 rfl rfl (by decide) rfl ?_
    refine sp_goto (pc := 87) (tgt := 16) dX5_look_87 (by decide) ?_
    exact sp_sub [1, 2, 3, 0] rfl (hk16 _ _ _ _ hf)
  · rw [if_neg c2] at hf
    refine sp_iload (pc := 58) dX5_look_58 4 rfl ?_
    refine sp_bipush (pc := 60) (v := 100) dX5_look_60 (by decide) ?_
    refine sp_icmp_ge (pc := 62) (tgt := 84) dX5_look_62 (by decide) (fun c3 => ?_) (fun c3 => ?_)
    · rw [if_pos c3] at hf
      refine sp_iinc (pc := 84) (v := v4 + 1) (lv' := [(4, .int (v4 + 1)), (0, .ref v0), (2, .int v2), (3, .ref v3), (5, .int v5)]) dX5_look_84 3 rfl rfl (by decide) rfl ?_
      refine sp_goto (pc := 87) (tgt := 16) dX5_look_87 (by decide) ?_
      exact sp_sub [1, 2, 3, 0] rfl (hk16 _ _ _ _ hf)
    · rw [if_neg c3] at hf
      refine sp_aload_n (pc := 65) dX5_look_65 0 rfl ?_
      obtain ⟨x4, ex4, hf⟩ := ob hf
      refine sp_gR (pc := 66) fl_RX5_9 dX5_look_66 ex4 ?_
      refine sp_iload (pc := 69) dX5_look_69 4 rfl ?_
      refine sp_aload_n (pc := 71) dX5_look_71 2 rfl ?_
      refine sp_iload (pc := 72) dX5_look_72 3 rfl ?_
      obtain ⟨y5, ey5, hf⟩ := ob hf
      obtain ⟨fsy5, hoy5⟩ := o_X6_valueAt ey5
      refine sp_callVi (pc := 74) (z := M_X6_valueAt) (As := [.int v4]) (b := v3) (bc2 := bc) (bs2 := bs) (m_X6_valueAt (Q := _) (fun sz => ⟨y5, rfl, ?_⟩) ey5) rfl dX5_look_74 hoy5 rfl rfl ck_X5_look_49 (Nat.le_of_ble_eq_true rfl) rfl rfl rfl
      obtain ⟨h6, eh6, hf⟩ := ob hf
      refine sp_wI (pc := 77) dX5_look_77 eh6 (fun sz => ?_)
      refine sp_iinc (pc := 78) (v := v5 + 1) (lv' := [(5, .int (v5 + 1)), (0, .ref v0), (2, .int v2), (3, .ref v3), (4, .int v4)]) dX5_look_78 4 rfl rfl (by decide) rfl ?_
      refine sp_goto (pc := 81) (tgt := 47) dX5_look_81 (by decide) ?_
      exact sp_sub [1, 2, 3, 4, 0] rfl (hk47 _ _ _ _ _ hf)

theorem w_X5_look_47 {l : Launch} {X : SCR} {Q : PST} {bc bs : Nat} {res : HP} (hQ : ∀ sz', Q (.inl none) res sz') {v0 : Nat} {v2 : Int32} {k16 : HP → Nat → Int32 → Option (HP)} (hk16 : ∀ (h : HP) (v3 : Nat) (v4 : Int32) (sz : Nat), k16 h v3 v4 = some res → SP l X M_X5_look 16 [(0, .ref v0), (2, .int v2), (3, .ref v3), (4, .int v4)] [] h sz bc bs Q) : ∀ (n : Nat) {h : HP} {v3 : Nat} {v4 : Int32} {v5 : Int32} {sz : Nat}, b_X5_look_47 v0 v2 k16 n h v3 v4 v5 = some res → SP l X M_X5_look 47 [(0, .ref v0), (2, .int v2), (3, .ref v3), (4, .int v4), (5, .int v5)] [] h sz bc bs Q := by
  intro n
  induction n with
  | zero =>
    intro h v3 v4 v5 sz hf
    rw [b_X5_look_47] at hf
    cases hf
  | succ n ih =>
    intro h v3 v4 v5 sz hf
    rw [b_X5_look_47] at hf
    exact wc_X5_look_47 hQ hk16 (fun h v3 v4 v5 sz hf => ih hf) hf

theorem wc_X5_look_16 {l : Launch} {X : SCR} {Q : PST} {bc bs : Nat} {res : HP} (hQ : ∀ sz', Q (.inl none) res sz') {v0 : Nat} {v2 : Int32} {k16 : HP → Nat → Int32 → Option (HP)} (hk16 : ∀ (h : HP) (v3 : Nat) (v4 : Int32) (sz : Nat), k16 h v3 v4 = some res → SP l X M_X5_look 16 [(0, .ref v0), (2, .int v2), (3, .ref v3), (4, .int v4)] [] h sz bc bs Q) {h : HP} {v3 : Nat} {v4 : Int32} {sz : Nat} (hf : c_X5_look_16 v0 v2 k16 h v3 v4 = some res) : SP l X M_X5_look 16 [(0, .ref v0), (2, .int v2), (3, .ref v3), (4, .int v4)] [] h sz bc bs Q := by
  rw [c_X5_look_16] at hf
  refine sp_iload (pc := 16) dX5_look_16 3 rfl ?_
  refine sp_aload_n (pc := 18) dX5_look_18 2 rfl ?_
  obtain ⟨y1, ey1, hf⟩ := ob hf
  obtain ⟨fsy1, hoy1⟩ := o_X6_size ey1
  refine sp_callVi (pc := 19) (z := M_X6_size) (As := []) (b := v3) (bc2 := bc) (bs2 := bs) (m_X6_size (Q := _) (fun sz => ⟨y1, rfl, ?_⟩) ey1) rfl dX5_look_19 hoy1 rfl rfl ck_X5_look_27 (Nat.le_of_ble_eq_true rfl) rfl rfl rfl
  refine sp_icmp_ge (pc := 22) (tgt := 90) dX5_look_22 (by decide) (fun c2 => ?_) (fun c2 => ?_)
  · rw [if_pos c2] at hf
    obtain rfl := Option.some.inj hf
    exact sp_return (pc := 90) dX5_look_90 rfl (hQ _)
  · rw [if_neg c2] at hf
    refine sp_aload_n (pc := 25) dX5_look_25 2 rfl ?_
    refine sp_iload (pc := 26) dX5_look_26 3 rfl ?_
    obtain ⟨y3, ey3, hf⟩ := ob hf
    obtain ⟨fsy3, hoy3⟩ := o_X6_numberAt ey3
    refine sp_callVi (pc := 28) (z := M_X6_numberAt) (As := [.int v4]) (b := v3) (bc2 := bc) (bs2 := bs) (m_X6_numberAt (Q := _) (fun sz => ⟨y3, rfl, ?_⟩) ey3) rfl dX5_look_28 hoy3 rfl rfl ck_X5_look_33 (Nat.le_of_ble_eq_true rfl) rfl rfl rfl
    refine sp_iload_n (pc := 31) dX5_look_31 1 rfl ?_
    refine sp_icmp_gt (pc := 32) (tgt := 90) dX5_look_32 (by decide) (fun c4 => ?_) (fun c4 => ?_)
    · rw [if_pos c4] at hf
      obtain rfl := Option.some.inj hf
      exact sp_return (pc := 90) dX5_look_90 rfl (hQ _)
    · rw [if_neg c4] at hf
      refine sp_aload_n (pc := 35) dX5_look_35 2 rfl ?_
      refine sp_iload (pc := 36) dX5_look_36 3 rfl ?_
      obtain ⟨y5, ey5, hf⟩ := ob hf
      obtain ⟨fsy5, hoy5⟩ := o_X6_firstAt ey5
      refine sp_callVi (pc := 38) (z := M_X6_firstAt) (As := [.int v4]) (b := v3) (bc2 := bc) (bs2 := bs) (m_X6_firstAt (Q := _) (fun sz => ⟨y5, rfl, ?_⟩) ey5) rfl dX5_look_38 hoy5 rfl rfl ck_X5_look_37 (Nat.le_of_ble_eq_true rfl) rfl rfl rfl
      refine sp_iconst (pc := 41) (v := 0) dX5_look_41 (by decide) ?_
      refine sp_mmaxJ (pc := 42) bk_259 bk_45 bk_9 bk_46 dX5_look_42 (by decide) (Nat.le_of_ble_eq_true rfl) ?_
      refine sp_istore (pc := 45) (lv' := [(5, .int (jmax y5 0)), (0, .ref v0), (2, .int v2), (3, .ref v3), (4, .int v4)]) dX5_look_45 (by decide) rfl ?_
      exact sp_sub [1, 2, 3, 4, 0] rfl (w_X5_look_47 hQ hk16 FU hf)

theorem w_X5_look_16 {l : Launch} {X : SCR} {Q : PST} {bc bs : Nat} {res : HP} (hQ : ∀ sz', Q (.inl none) res sz') {v0 : Nat} {v2 : Int32} : ∀ (n : Nat) {h : HP} {v3 : Nat} {v4 : Int32} {sz : Nat}, b_X5_look_16 v0 v2 n h v3 v4 = some res → SP l X M_X5_look 16 [(0, .ref v0), (2, .int v2), (3, .ref v3), (4, .int v4)] [] h sz bc bs Q := by
  intro n
  induction n with
  | zero =>
    intro h v3 v4 sz hf
    rw [b_X5_look_16] at hf
    cases hf
  | succ n ih =>
    intro h v3 v4 sz hf
    rw [b_X5_look_16] at hf
    exact wc_X5_look_16 hQ (fun h v3 v4 sz hf => ih hf) hf

theorem w_X5_look_0 {l : Launch} {X : SCR} {Q : PST} {bc bs : Nat} {res : HP} {h : HP} (hQ : ∀ sz', Q (.inl none) res sz') {v0 : Nat} {v1 : Nat} {v2 : Int32} {sz : Nat} (hf : b_X5_look_0 v0 v1 v2 h  = some res) : SP l X M_X5_look 0 [(0, .ref v0), (1, .ref v1), (2, .int v2)] [] h sz bc bs Q := by
  rw [b_X5_look_0] at hf
  refine sp_aload_n (pc := 0) dX5_look_0 0 rfl ?_
  obtain ⟨x1, ex1, hf⟩ := ob hf
  refine sp_gR (pc := 1) fl_RX5_9 dX5_look_1 ex1 ?_
  refine sp_iconst (pc := 4) (v := 0) dX5_look_4 (by decide) ?_
  obtain ⟨y2, ey2, hf⟩ := ob hf
  refine sp_callSv (pc := 5) (z := M_J7_fill_53178) (As := [.ref x1, .int 0]) (bc2 := bc) (bs2 := bs) (m_J7_fill_53178 (Q := _) (fun sz => ⟨(), rfl, ?_⟩) ey2) rfl dX5_look_5 rfl ck_X5_look_15 (Nat.le_of_ble_eq_true rfl) rfl rfl rfl
  refine sp_aload_n (pc := 8) dX5_look_8 1 rfl ?_
  obtain ⟨x3, ex3, hf⟩ := ob hf
  refine sp_gR (pc := 9) fl_RX5_21 dX5_look_9 ex3 ?_
  refine sp_astore_n (pc := 12) (lv' := [(3, .ref x3), (0, .ref v0), (1, .ref v1), (2, .int v2)]) dX5_look_12 (by decide) rfl ?_
  refine sp_iconst (pc := 13) (v := 0) dX5_look_13 (by decide) ?_
  refine sp_istore (pc := 14) (lv' := [(4, .int 0), (3, .ref x3), (0, .ref v0), (1, .ref v1), (2, .int v2)]) dX5_look_14 (by decide) rfl ?_
  exact sp_sub [2, 4, 1, 0] rfl (w_X5_look_16 hQ FU hf)

theorem o_X5_look {h : HP} {v0 : Nat} {v1 : Nat} {v2 : Int32} {res : HP} (hf : f_X5_look h v0 v1 v2 = some res) : ∃ fs, h v0 = some (.inr (5, fs)) := by
  obtain ⟨u, eu, -⟩ := ob hf
  exact kO_spec eu

theorem m_X5_look {l : Launch} {Q : PST} {h : HP} {v0 : Nat} {v1 : Nat} {v2 : Int32} {sz : Nat} {res : HP} (hQ : ∀ sz', Q (.inl none) res sz') (hf : f_X5_look h v0 v1 v2 = some res) : MM l M_X5_look [.ref v0, .ref v1, .int v2] h sz Q := by
  obtain ⟨u, eu, hf⟩ := ob hf
  exact MM_of wok_X5_look (by decide +kernel) (Nat.le_of_ble_eq_true rfl) ((w_X5_look_0 hQ hf))

theorem dX5_sum_0 : decode (mB M_X5_sum) 0 = .ok (.iconst 0, 1) := by decide +kernel
theorem dX5_sum_1 : decode (mB M_X5_sum) 1 = .ok (.istore_n 1, 1) := by decide +kernel
theorem dX5_sum_2 : decode (mB M_X5_sum) 2 = .ok (.iconst 0, 1) := by decide +kernel
theorem dX5_sum_3 : decode (mB M_X5_sum) 3 = .ok (.istore_n 2, 1) := by decide +kernel
theorem dX5_sum_4 : decode (mB M_X5_sum) 4 = .ok (.iload_n 2, 1) := by decide +kernel
theorem dX5_sum_5 : decode (mB M_X5_sum) 5 = .ok (.bipush 100, 2) := by decide +kernel
theorem dX5_sum_7 : decode (mB M_X5_sum) 7 = .ok (.if_icmp .ge 18, 3) := by decide +kernel
theorem dX5_sum_10 : decode (mB M_X5_sum) 10 = .ok (.iload_n 1, 1) := by decide +kernel
theorem dX5_sum_11 : decode (mB M_X5_sum) 11 = .ok (.aload_n 0, 1) := by decide +kernel
theorem dX5_sum_12 : decode (mB M_X5_sum) 12 = .ok (.getfield 9, 3) := by decide +kernel
theorem dX5_sum_15 : decode (mB M_X5_sum) 15 = .ok (.iload_n 2, 1) := by decide +kernel
theorem dX5_sum_16 : decode (mB M_X5_sum) 16 = .ok (.iaload, 1) := by decide +kernel
theorem dX5_sum_17 : decode (mB M_X5_sum) 17 = .ok (.iadd, 1) := by decide +kernel
theorem dX5_sum_18 : decode (mB M_X5_sum) 18 = .ok (.istore_n 1, 1) := by decide +kernel
theorem dX5_sum_19 : decode (mB M_X5_sum) 19 = .ok (.iinc 2 1, 3) := by decide +kernel
theorem dX5_sum_22 : decode (mB M_X5_sum) 22 = .ok (.goto (-18), 3) := by decide +kernel
theorem dX5_sum_25 : decode (mB M_X5_sum) 25 = .ok (.iload_n 1, 1) := by decide +kernel
theorem dX5_sum_26 : decode (mB M_X5_sum) 26 = .ok (.ireturn, 1) := by decide +kernel
def c_X5_sum_4 (h : HP) (v0 : Nat) (k4 : Int32 → Int32 → Option (Int32)) (v1 : Int32) (v2 : Int32) : Option (Int32) :=
  if 100 ≤ v2 then some (v1) else (gR 5 0 h v0).bind fun x2 => (aI h x2 v2).bind fun x3 => k4 (v1 + x3) (v2 + 1)
def b_X5_sum_4 (h : HP) (v0 : Nat) : Nat → Int32 → Int32 → Option (Int32)
  | 0, _, _ => none
  | n + 1, v1, v2 => c_X5_sum_4 h v0 (b_X5_sum_4 h v0 n) v1 v2
def b_X5_sum_0 (h : HP) (v0 : Nat) : Option (Int32) :=
  b_X5_sum_4 h v0 FU 0 0
def f_X5_sum (h : HP) (v0 : Nat) : Option (Int32) := (kO 5 h v0).bind fun _ => b_X5_sum_0 h v0
theorem wc_X5_sum_4 {l : Launch} {X : SCR} {Q : PST} {bc bs : Nat} {res : Int32} {h : HP} (hQ : ∀ sz', Q (.inl (some (.int res))) h sz') {v0 : Nat} {k4 : Int32 → Int32 → Option (Int32)} (hk4 : ∀ (v1 : Int32) (v2 : Int32) (sz : Nat), k4 v1 v2 = some res → SP l X M_X5_sum 4 [(0, .ref v0), (1, .int v1), (2, .int v2)] [] h sz bc bs Q) {v1 : Int32} {v2 : Int32} {sz : Nat} (hf : c_X5_sum_4 h v0 k4 v1 v2 = some res) : SP l X M_X5_sum 4 [(0, .ref v0), (1, .int v1), (2, .int v2)] [] h sz bc bs Q := by
  rw [c_X5_sum_4] at hf
  refine sp_iload_n (pc := 4) dX5_sum_4 2 rfl ?_
  refine sp_bipush (pc := 5) (v := 100) dX5_sum_5 (by decide) ?_
  refine sp_icmp_ge (pc := 7) (tgt := 25) dX5_sum_7 (by decide) (fun c1 => ?_) (fun c1 => ?_)
  · rw [if_pos c1] at hf
    refine sp_iload_n (pc := 25) dX5_sum_25 1 rfl ?_
    obtain rfl := Option.some.inj hf
    exact sp_ireturn (pc := 26) dX5_sum_26 rfl rfl (hQ _)
  · rw [if_neg c1] at hf
    refine sp_iload_n (pc := 10) dX5_sum_10 1 rfl ?_
    refine sp_aload_n (pc := 11) dX5_sum_11 0 rfl ?_
    obtain ⟨x2, ex2, hf⟩ := ob hf
    refine sp_gR (pc := 12) fl_RX5_9 dX5_sum_12 ex2 ?_
    refine sp_iload_n (pc := 15) dX5_sum_15 2 rfl ?_
    obtain ⟨x3, ex3, hf⟩ := ob hf
    refine sp_aI (pc := 16) dX5_sum_16 ex3 ?_
    refine sp_iadd (pc := 17) dX5_sum_17 ?_
    refine sp_istore_n (pc := 18) (lv' := [(1, .int (v1 + x3)), (0, .ref v0), (2, .int v2)]) dX5_sum_18 (by decide) rfl ?_
    refine sp_iinc (pc := 19) (v := v2 + 1) (lv' := [(2, .int (v2 + 1)), (1, .int (v1 + x3)), (0, .ref v0)]) dX5_sum_19 2 rfl rfl (by decide) rfl ?_
    refine sp_goto (pc := 22) (tgt := 4) dX5_sum_22 (by decide) ?_
    exact sp_sub [2, 1, 0] rfl (hk4 _ _ _ hf)

theorem w_X5_sum_4 {l : Launch} {X : SCR} {Q : PST} {bc bs : Nat} {res : Int32} {h : HP} (hQ : ∀ sz', Q (.inl (some (.int res))) h sz') {v0 : Nat} : ∀ (n : Nat) {v1 : Int32} {v2 : Int32} {sz : Nat}, b_X5_sum_4 h v0 n v1 v2 = some res → SP l X M_X5_sum 4 [(0, .ref v0), (1, .int v1), (2, .int v2)] [] h sz bc bs Q := by
  intro n
  induction n with
  | zero =>
    intro v1 v2 sz hf
    rw [b_X5_sum_4] at hf
    cases hf
  | succ n ih =>
    intro v1 v2 sz hf
    rw [b_X5_sum_4] at hf
    exact wc_X5_sum_4 hQ (fun v1 v2 sz hf => ih hf) hf

theorem w_X5_sum_0 {l : Launch} {X : SCR} {Q : PST} {bc bs : Nat} {res : Int32} {h : HP} (hQ : ∀ sz', Q (.inl (some (.int res))) h sz') {v0 : Nat} {sz : Nat} (hf : b_X5_sum_0 h v0  = some res) : SP l X M_X5_sum 0 [(0, .ref v0)] [] h sz bc bs Q := by
  rw [b_X5_sum_0] at hf
  refine sp_iconst (pc := 0) (v := 0) dX5_sum_0 (by decide) ?_
  refine sp_istore_n (pc := 1) (lv' := [(1, .int 0), (0, .ref v0)]) dX5_sum_1 (by decide) rfl ?_
  refine sp_iconst (pc := 2) (v := 0) dX5_sum_2 (by decide) ?_
  refine sp_istore_n (pc := 3) (lv' := [(2, .int 0), (1, .int 0), (0, .ref v0)]) dX5_sum_3 (by decide) rfl ?_
  exact sp_sub [2, 1, 0] rfl (w_X5_sum_4 hQ FU hf)

theorem o_X5_sum {h : HP} {v0 : Nat} {res : Int32} (hf : f_X5_sum h v0 = some res) : ∃ fs, h v0 = some (.inr (5, fs)) := by
  obtain ⟨u, eu, -⟩ := ob hf
  exact kO_spec eu

theorem m_X5_sum {l : Launch} {Q : PST} {h : HP} {v0 : Nat} {sz : Nat} {res : Int32} (hQ : ∀ sz', Q (.inl (some (.int res))) h sz') (hf : f_X5_sum h v0 = some res) : MM l M_X5_sum [.ref v0] h sz Q := by
  obtain ⟨u, eu, hf⟩ := ob hf
  exact MM_of wok_X5_sum (by decide +kernel) (Nat.le_of_ble_eq_true rfl) ((w_X5_sum_0 hQ hf))

theorem dX5_seenIn_0 : decode (mB M_X5_seenIn) 0 = .ok (.iconst 0, 1) := by decide +kernel
theorem dX5_seenIn_1 : decode (mB M_X5_seenIn) 1 = .ok (.istore_n 3, 1) := by decide +kernel
theorem dX5_seenIn_2 : decode (mB M_X5_seenIn) 2 = .ok (.iload_n 1, 1) := by decide +kernel
theorem dX5_seenIn_3 : decode (mB M_X5_seenIn) 3 = .ok (.iconst 0, 1) := by decide +kernel
theorem dX5_seenIn_4 : decode (mB M_X5_seenIn) 4 = .ok (.invokestatic 40, 3) := by decide +kernel
theorem dX5_seenIn_7 : decode (mB M_X5_seenIn) 7 = .ok (.istore 4, 2) := by decide +kernel
theorem dX5_seenIn_9 : decode (mB M_X5_seenIn) 9 = .ok (.iload 4, 2) := by decide +kernel
theorem dX5_seenIn_11 : decode (mB M_X5_seenIn) 11 = .ok (.iload_n 2, 1) := by decide +kernel
theorem dX5_seenIn_12 : decode (mB M_X5_seenIn) 12 = .ok (.if_icmp .gt 29, 3) := by decide +kernel
theorem dX5_seenIn_15 : decode (mB M_X5_seenIn) 15 = .ok (.iload 4, 2) := by decide +kernel
theorem dX5_seenIn_17 : decode (mB M_X5_seenIn) 17 = .ok (.bipush 100, 2) := by decide +kernel
theorem dX5_seenIn_19 : decode (mB M_X5_seenIn) 19 = .ok (.if_icmp .ge 22, 3) := by decide +kernel
theorem dX5_seenIn_22 : decode (mB M_X5_seenIn) 22 = .ok (.aload_n 0, 1) := by decide +kernel
theorem dX5_seenIn_23 : decode (mB M_X5_seenIn) 23 = .ok (.getfield 9, 3) := by decide +kernel
theorem dX5_seenIn_26 : decode (mB M_X5_seenIn) 26 = .ok (.iload 4, 2) := by decide +kernel
theorem dX5_seenIn_28 : decode (mB M_X5_seenIn) 28 = .ok (.iaload, 1) := by decide +kernel
theorem dX5_seenIn_29 : decode (mB M_X5_seenIn) 29 = .ok (.ifCond .eq 6, 3) := by decide +kernel
theorem dX5_seenIn_32 : decode (mB M_X5_seenIn) 32 = .ok (.iinc 3 1, 3) := by decide +kernel
theorem dX5_seenIn_35 : decode (mB M_X5_seenIn) 35 = .ok (.iinc 4 1, 3) := by decide +kernel
theorem dX5_seenIn_38 : decode (mB M_X5_seenIn) 38 = .ok (.goto (-29), 3) := by decide +kernel
theorem dX5_seenIn_41 : decode (mB M_X5_seenIn) 41 = .ok (.iload_n 3, 1) := by decide +kernel
theorem dX5_seenIn_42 : decode (mB M_X5_seenIn) 42 = .ok (.ireturn, 1) := by decide +kernel
def c_X5_seenIn_9 (h : HP) (v0 : Nat) (v2 : Int32) (k9 : Int32 → Int32 → Option (Int32)) (v3 : Int32) (v4 : Int32) : Option (Int32) :=
  if v2 < v4 then some (v3) else if 100 ≤ v4 then some (v3) else (gR 5 0 h v0).bind fun x3 => (aI h x3 v4).bind fun x4 => if x4 = 0 then k9 v3 (v4 + 1) else k9 (v3 + 1) (v4 + 1)
def b_X5_seenIn_9 (h : HP) (v0 : Nat) (v2 : Int32) : Nat → Int32 → Int32 → Option (Int32)
  | 0, _, _ => none
  | n + 1, v3, v4 => c_X5_seenIn_9 h v0 v2 (b_X5_seenIn_9 h v0 v2 n) v3 v4
def b_X5_seenIn_0 (h : HP) (v0 : Nat) (v1 : Int32) (v2 : Int32) : Option (Int32) :=
  b_X5_seenIn_9 h v0 v2 FU 0 (jmax v1 0)
def f_X5_seenIn (h : HP) (v0 : Nat) (v1 : Int32) (v2 : Int32) : Option (Int32) := (kO 5 h v0).bind fun _ => b_X5_seenIn_0 h v0 v1 v2
theorem wc_X5_seenIn_9 {l : Launch} {X : SCR} {Q : PST} {bc bs : Nat} {res : Int32} {h : HP} (hQ : ∀ sz', Q (.inl (some (.int res))) h sz') {v0 : Nat} {v2 : Int32} {k9 : Int32 → Int32 → Option (Int32)} (hk9 : ∀ (v3 : Int32) (v4 : Int32) (sz : Nat), k9 v3 v4 = some res → SP l X M_X5_seenIn 9 [(0, .ref v0), (2, .int v2), (3, .int v3), (4, .int v4)] [] h sz bc bs Q) {v3 : Int32} {v4 : Int32} {sz : Nat} (hf : c_X5_seenIn_9 h v0 v2 k9 v3 v4 = some res) : SP l X M_X5_seenIn 9 [(0, .ref v0), (2, .int v2), (3, .int v3), (4, .int v4)] [] h sz bc bs Q := by
  rw [c_X5_seenIn_9] at hf
  refine sp_iload (pc := 9) dX5_seenIn_9 3 rfl ?_
  refine sp_iload_n (pc := 11) dX5_seenIn_11 1 rfl ?_
  refine sp_icmp_gt (pc := 12) (tgt := 41) dX5_seenIn_12 (by decide) (fun c1 => ?_) (fun c1 => ?_)
  · rw [if_pos c1] at hf
    refine sp_iload_n (pc := 41) dX5_seenIn_41 2 rfl ?_
    obtain rfl := Option.some.inj hf
    exact sp_ireturn (pc := 42) dX5_seenIn_42 rfl rfl (hQ _)
  · rw [if_neg c1] at hf
    refine sp_iload (pc := 15) dX5_seenIn_15 3 rfl ?_
    refine sp_bipush (pc := 17) (v := 100) dX5_seenIn_17 (by decide) ?_
    refine sp_icmp_ge (pc := 19) (tgt := 41) dX5_seenIn_19 (by decide) (fun c2 => ?_) (fun c2 => ?_)
    · rw [if_pos c2] at hf
      refine sp_iload_n (pc := 41) dX5_seenIn_41 2 rfl ?_
      obtain rfl := Option.some.inj hf
      exact sp_ireturn (pc := 42) dX5_seenIn_42 rfl rfl (hQ _)
    · rw [if_neg c2] at hf
      refine sp_aload_n (pc := 22) dX5_seenIn_22 0 rfl ?_
      obtain ⟨x3, ex3, hf⟩ := ob hf
      refine sp_gR (pc := 23) fl_RX5_9 dX5_seenIn_23 ex3 ?_
      refine sp_iload (pc := 26) dX5_seenIn_26 3 rfl ?_
      obtain ⟨x4, ex4, hf⟩ := ob hf
      refine sp_aI (pc := 28) dX5_seenIn_28 ex4 ?_
      refine sp_if_eq (pc := 29) (tgt := 35) dX5_seenIn_29 (by decide) (fun c5 => ?_) (fun c5 => ?_)
      · rw [if_pos c5] at hf
        refine sp_iinc (pc := 35) (v := v4 + 1) (lv' := [(4, .int (v4 + 1)), (0, .ref v0), (2, .int v2), (3, .int v3)]) dX5_seenIn_35 3 rfl rfl (by decide) rfl ?_
        refine sp_goto (pc := 38) (tgt := 9) dX5_seenIn_38 (by decide) ?_
        exact sp_sub [1, 2, 3, 0] rfl (hk9 _ _ _ hf)
      · rw [if_neg c5] at hf
        refine sp_iinc (pc := 32) (v := v3 + 1) (lv' := [(3, .int (v3 + 1)), (0, .ref v0), (2, .int v2), (4, .int v4)]) dX5_seenIn_32 2 rfl rfl (by decide) rfl ?_
        refine sp_iinc (pc := 35) (v := v4 + 1) (lv' := [(4, .int (v4 + 1)), (3, .int (v3 + 1)), (0, .ref v0), (2, .int v2)]) dX5_seenIn_35 3 rfl rfl (by decide) rfl ?_
        refine sp_goto (pc := 38) (tgt := 9) dX5_seenIn_38 (by decide) ?_
        exact sp_sub [2, 3, 1, 0] rfl (hk9 _ _ _ hf)

theorem w_X5_seenIn_9 {l : Launch} {X : SCR} {Q : PST} {bc bs : Nat} {res : Int32} {h : HP} (hQ : ∀ sz', Q (.inl (some (.int res))) h sz') {v0 : Nat} {v2 : Int32} : ∀ (n : Nat) {v3 : Int32} {v4 : Int32} {sz : Nat}, b_X5_seenIn_9 h v0 v2 n v3 v4 = some res → SP l X M_X5_seenIn 9 [(0, .ref v0), (2, .int v2), (3, .int v3), (4, .int v4)] [] h sz bc bs Q := by
  intro n
  induction n with
  | zero =>
    intro v3 v4 sz hf
    rw [b_X5_seenIn_9] at hf
    cases hf
  | succ n ih =>
    intro v3 v4 sz hf
    rw [b_X5_seenIn_9] at hf
    exact wc_X5_seenIn_9 hQ (fun v3 v4 sz hf => ih hf) hf

theorem w_X5_seenIn_0 {l : Launch} {X : SCR} {Q : PST} {bc bs : Nat} {res : Int32} {h : HP} (hQ : ∀ sz', Q (.inl (some (.int res))) h sz') {v0 : Nat} {v1 : Int32} {v2 : Int32} {sz : Nat} (hf : b_X5_seenIn_0 h v0 v1 v2  = some res) : SP l X M_X5_seenIn 0 [(0, .ref v0), (1, .int v1), (2, .int v2)] [] h sz bc bs Q := by
  rw [b_X5_seenIn_0] at hf
  refine sp_iconst (pc := 0) (v := 0) dX5_seenIn_0 (by decide) ?_
  refine sp_istore_n (pc := 1) (lv' := [(3, .int 0), (0, .ref v0), (1, .int v1), (2, .int v2)]) dX5_seenIn_1 (by decide) rfl ?_
  refine sp_iload_n (pc := 2) dX5_seenIn_2 2 rfl ?_
  refine sp_iconst (pc := 3) (v := 0) dX5_seenIn_3 (by decide) ?_
  refine sp_mmaxJ (pc := 4) bk_259 bk_45 bk_9 bk_46 dX5_seenIn_4 (by decide) (Nat.le_of_ble_eq_true rfl) ?_
  refine sp_istore (pc := 7) (lv' := [(4, .int (jmax v1 0)), (3, .int 0), (0, .ref v0), (1, .int v1), (2, .int v2)]) dX5_seenIn_7 (by decide) rfl ?_
  exact sp_sub [2, 4, 1, 0] rfl (w_X5_seenIn_9 hQ FU hf)

theorem o_X5_seenIn {h : HP} {v0 : Nat} {v1 : Int32} {v2 : Int32} {res : Int32} (hf : f_X5_seenIn h v0 v1 v2 = some res) : ∃ fs, h v0 = some (.inr (5, fs)) := by
  obtain ⟨u, eu, -⟩ := ob hf
  exact kO_spec eu

theorem m_X5_seenIn {l : Launch} {Q : PST} {h : HP} {v0 : Nat} {v1 : Int32} {v2 : Int32} {sz : Nat} {res : Int32} (hQ : ∀ sz', Q (.inl (some (.int res))) h sz') (hf : f_X5_seenIn h v0 v1 v2 = some res) : MM l M_X5_seenIn [.ref v0, .int v1, .int v2] h sz Q := by
  obtain ⟨u, eu, hf⟩ := ob hf
  exact MM_of wok_X5_seenIn (by decide +kernel) (Nat.le_of_ble_eq_true rfl) ((w_X5_seenIn_0 hQ hf))

theorem dX5_firstSeen_0 : decode (mB M_X5_firstSeen) 0 = .ok (.iload_n 1, 1) := by decide +kernel
theorem dX5_firstSeen_1 : decode (mB M_X5_firstSeen) 1 = .ok (.iconst 0, 1) := by decide +kernel
theorem dX5_firstSeen_2 : decode (mB M_X5_firstSeen) 2 = .ok (.invokestatic 40, 3) := by decide +kernel
theorem dX5_firstSeen_5 : decode (mB M_X5_firstSeen) 5 = .ok (.istore_n 2, 1) := by decide +kernel
theorem dX5_firstSeen_6 : decode (mB M_X5_firstSeen) 6 = .ok (.iload_n 2, 1) := by decide +kernel
theorem dX5_firstSeen_7 : decode (mB M_X5_firstSeen) 7 = .ok (.bipush 100, 2) := by decide +kernel
theorem dX5_firstSeen_9 : decode (mB M_X5_firstSeen) 9 = .ok (.if_icmp .ge 20, 3) := by decide +kernel
theorem dX5_firstSeen_12 : decode (mB M_X5_firstSeen) 12 = .ok (.aload_n 0, 1) := by decide +kernel
theorem dX5_firstSeen_13 : decode (mB M_X5_firstSeen) 13 = .ok (.getfield 9, 3) := by decide +kernel
theorem dX5_firstSeen_16 : decode (mB M_X5_firstSeen) 16 = .ok (.iload_n 2, 1) := by decide +kernel
theorem dX5_firstSeen_17 : decode (mB M_X5_firstSeen) 17 = .ok (.iaload, 1) := by decide +kernel
theorem dX5_firstSeen_18 : decode (mB M_X5_firstSeen) 18 = .ok (.ifCond .eq 5, 3) := by decide +kernel
theorem dX5_firstSeen_21 : decode (mB M_X5_firstSeen) 21 = .ok (.iload_n 2, 1) := by decide +kernel
theorem dX5_firstSeen_22 : decode (mB M_X5_firstSeen) 22 = .ok (.ireturn, 1) := by decide +kernel
theorem dX5_firstSeen_23 : decode (mB M_X5_firstSeen) 23 = .ok (.iinc 2 1, 3) := by decide +kernel
theorem dX5_firstSeen_26 : decode (mB M_X5_firstSeen) 26 = .ok (.goto (-20), 3) := by decide +kernel
theorem dX5_firstSeen_29 : decode (mB M_X5_firstSeen) 29 = .ok (.iconst (-1), 1) := by decide +kernel
theorem dX5_firstSeen_30 : decode (mB M_X5_firstSeen) 30 = .ok (.ireturn, 1) := by decide +kernel
def c_X5_firstSeen_6 (h : HP) (v0 : Nat) (k6 : Int32 → Option (Int32)) (v2 : Int32) : Option (Int32) :=
  if 100 ≤ v2 then some ((-1)) else (gR 5 0 h v0).bind fun x2 => (aI h x2 v2).bind fun x3 => if x3 = 0 then k6 (v2 + 1) else some (v2)
def b_X5_firstSeen_6 (h : HP) (v0 : Nat) : Nat → Int32 → Option (Int32)
  | 0, _ => none
  | n + 1, v2 => c_X5_firstSeen_6 h v0 (b_X5_firstSeen_6 h v0 n) v2
def b_X5_firstSeen_0 (h : HP) (v0 : Nat) (v1 : Int32) : Option (Int32) :=
  b_X5_firstSeen_6 h v0 FU (jmax v1 0)
def f_X5_firstSeen (h : HP) (v0 : Nat) (v1 : Int32) : Option (Int32) := (kO 5 h v0).bind fun _ => b_X5_firstSeen_0 h v0 v1
theorem wc_X5_firstSeen_6 {l : Launch} {X : SCR} {Q : PST} {bc bs : Nat} {res : Int32} {h : HP} (hQ : ∀ sz', Q (.inl (some (.int res))) h sz') {v0 : Nat} {k6 : Int32 → Option (Int32)} (hk6 : ∀ (v2 : Int32) (sz : Nat), k6 v2 = some res → SP l X M_X5_firstSeen 6 [(0, .ref v0), (2, .int v2)] [] h sz bc bs Q) {v2 : Int32} {sz : Nat} (hf : c_X5_firstSeen_6 h v0 k6 v2 = some res) : SP l X M_X5_firstSeen 6 [(0, .ref v0), (2, .int v2)] [] h sz bc bs Q := by
  rw [c_X5_firstSeen_6] at hf
  refine sp_iload_n (pc := 6) dX5_firstSeen_6 1 rfl ?_
  refine sp_bipush (pc := 7) (v := 100) dX5_firstSeen_7 (by decide) ?_
  refine sp_icmp_ge (pc := 9) (tgt := 29) dX5_firstSeen_9 (by decide) (fun c1 => ?_) (fun c1 => ?_)
  · rw [if_pos c1] at hf
    refine sp_iconst (pc := 29) (v := (-1)) dX5_firstSeen_29 (by decide) ?_
    obtain rfl := Option.some.inj hf
    exact sp_ireturn (pc := 30) dX5_firstSeen_30 rfl rfl (hQ _)
  · rw [if_neg c1] at hf
    refine sp_aload_n (pc := 12) dX5_firstSeen_12 0 rfl ?_
    obtain ⟨x2, ex2, hf⟩ := ob hf
    refine sp_gR (pc := 13) fl_RX5_9 dX5_firstSeen_13 ex2 ?_
    refine sp_iload_n (pc := 16) dX5_firstSeen_16 1 rfl ?_
    obtain ⟨x3, ex3, hf⟩ := ob hf
    refine sp_aI (pc := 17) dX5_firstSeen_17 ex3 ?_
    refine sp_if_eq (pc := 18) (tgt := 23) dX5_firstSeen_18 (by decide) (fun c4 => ?_) (fun c4 => ?_)
    · rw [if_pos c4] at hf
      refine sp_iinc (pc := 23) (v := v2 + 1) (lv' := [(2, .int (v2 + 1)), (0, .ref v0)]) dX5_firstSeen_23 1 rfl rfl (by decide) rfl ?_
      refine sp_goto (pc := 26) (tgt := 6) dX5_firstSeen_26 (by decide) ?_
      exact sp_sub [1, 0] rfl (hk6 _ _ hf)
    · rw [if_neg c4] at hf
      refine sp_iload_n (pc := 21) dX5_firstSeen_21 1 rfl ?_
      obtain rfl := Option.some.inj hf
      exact sp_ireturn (pc := 22) dX5_firstSeen_22 rfl rfl (hQ _)

theorem w_X5_firstSeen_6 {l : Launch} {X : SCR} {Q : PST} {bc bs : Nat} {res : Int32} {h : HP} (hQ : ∀ sz', Q (.inl (some (.int res))) h sz') {v0 : Nat} : ∀ (n : Nat) {v2 : Int32} {sz : Nat}, b_X5_firstSeen_6 h v0 n v2 = some res → SP l X M_X5_firstSeen 6 [(0, .ref v0), (2, .int v2)] [] h sz bc bs Q := by
  intro n
  induction n with
  | zero =>
    intro v2 sz hf
    rw [b_X5_firstSeen_6] at hf
    cases hf
  | succ n ih =>
    intro v2 sz hf
    rw [b_X5_firstSeen_6] at hf
    exact wc_X5_firstSeen_6 hQ (fun v2 sz hf => ih hf) hf

theorem w_X5_firstSeen_0 {l : Launch} {X : SCR} {Q : PST} {bc bs : Nat} {res : Int32} {h : HP} (hQ : ∀ sz', Q (.inl (some (.int res))) h sz') {v0 : Nat} {v1 : Int32} {sz : Nat} (hf : b_X5_firstSeen_0 h v0 v1  = some res) : SP l X M_X5_firstSeen 0 [(0, .ref v0), (1, .int v1)] [] h sz bc bs Q := by
  rw [b_X5_firstSeen_0] at hf
  refine sp_iload_n (pc := 0) dX5_firstSeen_0 1 rfl ?_
  refine sp_iconst (pc := 1) (v := 0) dX5_firstSeen_1 (by decide) ?_
  refine sp_mmaxJ (pc := 2) bk_259 bk_45 bk_9 bk_46 dX5_firstSeen_2 (by decide) (Nat.le_of_ble_eq_true rfl) ?_
  refine sp_istore_n (pc := 5) (lv' := [(2, .int (jmax v1 0)), (0, .ref v0), (1, .int v1)]) dX5_firstSeen_5 (by decide) rfl ?_
  exact sp_sub [1, 0] rfl (w_X5_firstSeen_6 hQ FU hf)

theorem o_X5_firstSeen {h : HP} {v0 : Nat} {v1 : Int32} {res : Int32} (hf : f_X5_firstSeen h v0 v1 = some res) : ∃ fs, h v0 = some (.inr (5, fs)) := by
  obtain ⟨u, eu, -⟩ := ob hf
  exact kO_spec eu

theorem m_X5_firstSeen {l : Launch} {Q : PST} {h : HP} {v0 : Nat} {v1 : Int32} {sz : Nat} {res : Int32} (hQ : ∀ sz', Q (.inl (some (.int res))) h sz') (hf : f_X5_firstSeen h v0 v1 = some res) : MM l M_X5_firstSeen [.ref v0, .int v1] h sz Q := by
  obtain ⟨u, eu, hf⟩ := ob hf
  exact MM_of wok_X5_firstSeen (by decide +kernel) (Nat.le_of_ble_eq_true rfl) ((w_X5_firstSeen_0 hQ hf))

theorem dX7_init_0 : decode (mB M_X7_init) 0 = .ok (.aload_n 0, 1) := by decide +kernel
theorem dX7_init_1 : decode (mB M_X7_init) 1 = .ok (.invokespecial 3, 3) := by decide +kernel
theorem dX7_init_4 : decode (mB M_X7_init) 4 = .ok (.new 9, 3) := by decide +kernel
theorem dX7_init_7 : decode (mB M_X7_init) 7 = .ok (.dup, 1) := by decide +kernel
theorem dX7_init_8 : decode (mB M_X7_init) 8 = .ok (.invokespecial 11, 3) := by decide +kernel
theorem dX7_init_11 : decode (mB M_X7_init) 11 = .ok (.astore_n 1, 1) := by decide +kernel
theorem dX7_init_12 : decode (mB M_X7_init) 12 = .ok (.aload_n 0, 1) := by decide +kernel
theorem dX7_init_13 : decode (mB M_X7_init) 13 = .ok (.new 12, 3) := by decide +kernel
theorem dX7_init_16 : decode (mB M_X7_init) 16 = .ok (.dup, 1) := by decide +kernel
theorem dX7_init_17 : decode (mB M_X7_init) 17 = .ok (.invokespecial 14, 3) := by decide +kernel
theorem dX7_init_20 : decode (mB M_X7_init) 20 = .ok (.putfield 15, 3) := by decide +kernel
theorem dX7_init_23 : decode (mB M_X7_init) 23 = .ok (.aload_n 0, 1) := by decide +kernel
theorem dX7_init_24 : decode (mB M_X7_init) 24 = .ok (.new 19, 3) := by decide +kernel
theorem dX7_init_27 : decode (mB M_X7_init) 27 = .ok (.dup, 1) := by decide +kernel
theorem dX7_init_28 : decode (mB M_X7_init) 28 = .ok (.aload_n 1, 1) := by decide +kernel
theorem dX7_init_29 : decode (mB M_X7_init) 29 = .ok (.bipush 48, 2) := by decide +kernel
theorem dX7_init_31 : decode (mB M_X7_init) 31 = .ok (.invokespecial 21, 3) := by decide +kernel
theorem dX7_init_34 : decode (mB M_X7_init) 34 = .ok (.putfield 24, 3) := by decide +kernel
theorem dX7_init_37 : decode (mB M_X7_init) 37 = .ok (.aload_n 0, 1) := by decide +kernel
theorem dX7_init_38 : decode (mB M_X7_init) 38 = .ok (.new 19, 3) := by decide +kernel
theorem dX7_init_41 : decode (mB M_X7_init) 41 = .ok (.dup, 1) := by decide +kernel
theorem dX7_init_42 : decode (mB M_X7_init) 42 = .ok (.aload_n 1, 1) := by decide +kernel
theorem dX7_init_43 : decode (mB M_X7_init) 43 = .ok (.sipush 148, 3) := by decide +kernel
theorem dX7_init_46 : decode (mB M_X7_init) 46 = .ok (.invokespecial 21, 3) := by decide +kernel
theorem dX7_init_49 : decode (mB M_X7_init) 49 = .ok (.putfield 28, 3) := by decide +kernel
theorem dX7_init_52 : decode (mB M_X7_init) 52 = .ok (.aload_n 0, 1) := by decide +kernel
theorem dX7_init_53 : decode (mB M_X7_init) 53 = .ok (.new 31, 3) := by decide +kernel
theorem dX7_init_56 : decode (mB M_X7_init) 56 = .ok (.dup, 1) := by decide +kernel
theorem dX7_init_57 : decode (mB M_X7_init) 57 = .ok (.aload_n 1, 1) := by decide +kernel
theorem dX7_init_58 : decode (mB M_X7_init) 58 = .ok (.invokespecial 33, 3) := by decide +kernel
theorem dX7_init_61 : decode (mB M_X7_init) 61 = .ok (.putfield 36, 3) := by decide +kernel
theorem dX7_init_64 : decode (mB M_X7_init) 64 = .ok (.aload_n 0, 1) := by decide +kernel
theorem dX7_init_65 : decode (mB M_X7_init) 65 = .ok (.iconst 2, 1) := by decide +kernel
theorem dX7_init_66 : decode (mB M_X7_init) 66 = .ok (.anewarray 19, 3) := by decide +kernel
theorem dX7_init_69 : decode (mB M_X7_init) 69 = .ok (.putfield 40, 3) := by decide +kernel
theorem dX7_init_72 : decode (mB M_X7_init) 72 = .ok (.iconst 0, 1) := by decide +kernel
theorem dX7_init_73 : decode (mB M_X7_init) 73 = .ok (.istore_n 2, 1) := by decide +kernel
theorem dX7_init_74 : decode (mB M_X7_init) 74 = .ok (.iload_n 2, 1) := by decide +kernel
theorem dX7_init_75 : decode (mB M_X7_init) 75 = .ok (.iconst 2, 1) := by decide +kernel
theorem dX7_init_76 : decode (mB M_X7_init) 76 = .ok (.if_icmp .ge 25, 3) := by decide +kernel
theorem dX7_init_79 : decode (mB M_X7_init) 79 = .ok (.aload_n 0, 1) := by decide +kernel
theorem dX7_init_80 : decode (mB M_X7_init) 80 = .ok (.getfield 40, 3) := by decide +kernel
theorem dX7_init_83 : decode (mB M_X7_init) 83 = .ok (.iload_n 2, 1) := by decide +kernel
theorem dX7_init_84 : decode (mB M_X7_init) 84 = .ok (.new 19, 3) := by decide +kernel
theorem dX7_init_87 : decode (mB M_X7_init) 87 = .ok (.dup, 1) := by decide +kernel
theorem dX7_init_88 : decode (mB M_X7_init) 88 = .ok (.aload_n 1, 1) := by decide +kernel
theorem dX7_init_89 : decode (mB M_X7_init) 89 = .ok (.bipush 48, 2) := by decide +kernel
theorem dX7_init_91 : decode (mB M_X7_init) 91 = .ok (.invokespecial 21, 3) := by decide +kernel
theorem dX7_init_94 : decode (mB M_X7_init) 94 = .ok (.aastore, 1) := by decide +kernel
theorem dX7_init_95 : decode (mB M_X7_init) 95 = .ok (.iinc 2 1, 3) := by decide +kernel
theorem dX7_init_98 : decode (mB M_X7_init) 98 = .ok (.goto (-24), 3) := by decide +kernel
theorem dX7_init_101 : decode (mB M_X7_init) 101 = .ok (.aload_n 0, 1) := by decide +kernel
theorem dX7_init_102 : decode (mB M_X7_init) 102 = .ok (.iconst 2, 1) := by decide +kernel
theorem dX7_init_103 : decode (mB M_X7_init) 103 = .ok (.newarray .boolean, 2) := by decide +kernel
theorem dX7_init_105 : decode (mB M_X7_init) 105 = .ok (.putfield 44, 3) := by decide +kernel
theorem dX7_init_108 : decode (mB M_X7_init) 108 = .ok (.aload_n 0, 1) := by decide +kernel
theorem dX7_init_109 : decode (mB M_X7_init) 109 = .ok (.new 48, 3) := by decide +kernel
theorem dX7_init_112 : decode (mB M_X7_init) 112 = .ok (.dup, 1) := by decide +kernel
theorem dX7_init_113 : decode (mB M_X7_init) 113 = .ok (.invokespecial 50, 3) := by decide +kernel
theorem dX7_init_116 : decode (mB M_X7_init) 116 = .ok (.putfield 51, 3) := by decide +kernel
theorem dX7_init_119 : decode (mB M_X7_init) 119 = .ok (.return_, 1) := by decide +kernel
def c_X7_init_74 (v0 : Nat) (k74 : HP → Nat → Nat → Nat → Nat → Int32 → Option (HP × Nat)) (h : HP) (q bc bs : Nat) (v1 : Nat) (v2 : Int32) : Option (HP × Nat) :=
  if 2 ≤ v2 then (alN bc bs 2).bind fun b2 => (nwZ h q 2).bind fun h3 => (pR 7 5 h3 v0 q).bind fun h4 => (tk b2.1 1).bind fun b6 => (tk b2.2 1).bind fun b7 => (nwO h4 (q + 1) 5 [.null]).bind fun h5 => (tk b6 1).bind fun b9 => (tk b7 100).bind fun b10 => (f_X5_init h5 ((q + 1) + 1) (q + 1)).bind fun y8 => (pR 7 6 y8.1 v0 (q + 1)).bind fun h11 => some (h11, y8.2) else (gR 7 4 h v0).bind fun x12 => (tk bc 1).bind fun b14 => (tk bs 8).bind fun b15 => (nwO h q 3 [.null, .null, .null, .null, .int 0, .int 0, .int 0, .int 0]).bind fun h13 => (tk b14 7).bind fun b17 => (tk b15 1405).bind fun b18 => (f_X3_init h13 (q + 1) q v1 48).bind fun y16 => (wR 4 3 y16.1 x12 v2 q).bind fun h19 => k74 h19 y16.2 b17 b18 v1 (v2 + 1)
def b_X7_init_74 (v0 : Nat) : Nat → HP → Nat → Nat → Nat → Nat → Int32 → Option (HP × Nat)
  | 0, _, _, _, _, _, _ => none
  | n + 1, h, q, bc, bs, v1, v2 => c_X7_init_74 v0 (b_X7_init_74 v0 n) h q bc bs v1 v2
def b_X7_init_0 (v0 : Nat) (h : HP) (q bc bs : Nat) : Option (HP × Nat) :=
  (tk bc 1).bind fun b2 => (tk bs 5).bind fun b3 => (nwO h q 0 [.null, .null, .null, .null, .null]).bind fun h1 => (tk b2 157).bind fun b5 => (tk b3 1847).bind fun b6 => (f_X0_init h1 (q + 1) q).bind fun y4 => (tk b5 1).bind fun b8 => (tk b6 2).bind fun b9 => (nwO y4.1 y4.2 4 [.null, .int 0]).bind fun h7 => (tk b8 1).bind fun b11 => (tk b9 120).bind fun b12 => (f_X4_init h7 (y4.2 + 1) y4.2).bind fun y10 => (pR 7 0 y10.1 v0 y4.2).bind fun h13 => (tk b11 1).bind fun b15 => (tk b12 8).bind fun b16 => (nwO h13 y10.2 3 [.null, .null, .null, .null, .int 0, .int 0, .int 0, .int 0]).bind fun h14 => (tk b15 7).bind fun b18 => (tk b16 1405).bind fun b19 => (f_X3_init h14 (y10.2 + 1) y10.2 q 48).bind fun y17 => (pR 7 1 y17.1 v0 y10.2).bind fun h20 => (tk b18 1).bind fun b22 => (tk b19 8).bind fun b23 => (nwO h20 y17.2 3 [.null, .null, .null, .null, .int 0, .int 0, .int 0, .int 0]).bind fun h21 => (tk b22 7).bind fun b25 => (tk b23 1405).bind fun b26 => (f_X3_init h21 (y17.2 + 1) y17.2 q 148).bind fun y24 => (pR 7 2 y24.1 v0 y17.2).bind fun h27 => (tk b25 1).bind fun b29 => (tk b26 3).bind fun b30 => (nwO h27 y24.2 1 [.null, .int 0, .int 0]).bind fun h28 => (tk b29 113).bind fun b32 => (tk b30 19796).bind fun b33 => (f_X1_init h28 (y24.2 + 1) y24.2 q).bind fun y31 => (pR 7 3 y31.1 v0 y24.2).bind fun h34 => (alN b32 b33 2).bind fun b35 => (nwR 4 h34 y31.2 2).bind fun h36 => (pR 7 4 h36 v0 y31.2).bind fun h37 => b_X7_init_74 v0 FU h37 (y31.2 + 1) b35.1 b35.2 q 0
def f_X7_init (h : HP) (q : Nat) (v0 : Nat) : Option (HP × Nat) := b_X7_init_0 v0 h q 310 27530
theorem wc_X7_init_74 {l : Launch} {X : SCR} {Q : PST} {res : HP × Nat} (hQ : Q (.inl none) res.1 res.2) {v0 : Nat} {k74 : HP → Nat → Nat → Nat → Nat → Int32 → Option (HP × Nat)} (hk74 : ∀ (h : HP) (q bc bs : Nat) (v1 : Nat) (v2 : Int32), k74 h q bc bs v1 v2 = some res → SP l X M_X7_init 74 [(0, .ref v0), (1, .ref v1), (2, .int v2)] [] h q bc bs Q) {h : HP} {q bc bs : Nat} {v1 : Nat} {v2 : Int32} (hf : c_X7_init_74 v0 k74 h q bc bs v1 v2 = some res) : SP l X M_X7_init 74 [(0, .ref v0), (1, .ref v1), (2, .int v2)] [] h q bc bs Q := by
  rw [c_X7_init_74] at hf
  refine sp_iload_n (pc := 74) dX7_init_74 2 rfl ?_
  refine sp_iconst (pc := 75) (v := 2) dX7_init_75 (by decide) ?_
  refine sp_icmp_ge (pc := 76) (tgt := 101) dX7_init_76 (by decide) (fun c1 => ?_) (fun c1 => ?_)
  · rw [if_pos c1] at hf
    refine sp_aload_n (pc := 101) dX7_init_101 0 rfl ?_
    refine sp_iconst (pc := 102) (v := 2) dX7_init_102 (by decide) ?_
    obtain ⟨b2, eb2, hf⟩ := ob hf
    obtain ⟨h3, eh3, hf⟩ := ob hf
    obtain rfl := Option.some.inj eh3
    obtain ⟨g1b2, g2b2, g3b2, g4b2⟩ := alN_spec eb2
    refine sp_newaZ (pc := 103) (bc2 := b2.1) (bs2 := b2.2) bk_172 dX7_init_103 g1b2 rfl (Nat.le_trans (Nat.mul_le_mul_left _ (by decide)) g2b2) g3b2 g4b2 (fun hfr => ?_)
    obtain ⟨h4, eh4, hf⟩ := ob hf
    refine sp_pRF (pc := 105) pf_RX7_44 rfl dX7_init_105 rfl rfl eh4 ?_
    refine sp_aload_n (pc := 108) dX7_init_108 0 rfl ?_
    obtain ⟨b6, eb6, hf⟩ := ob hf
    obtain ⟨b7, eb7, hf⟩ := ob hf
    obtain ⟨h5, eh5, hf⟩ := ob hf
    obtain rfl := Option.some.inj eh5
    refine sp_new (pc := 109) (bc2 := b6) (bs2 := b7) nw_RX7_48 dX7_init_109 (tk_spec eb6) (tk_spec eb7) (fun hfr => ?_)
    refine sp_dup (pc := 112) dX7_init_112 rfl ?_
    obtain ⟨b9, eb9, hf⟩ := ob hf
    obtain ⟨b10, eb10, hf⟩ := ob hf
    obtain ⟨y8, ey8, hf⟩ := ob hf
    refine sp_callIv (pc := 113) (z := M_X5_init) (As := []) (b := (q + 1)) (bc2 := b9) (bs2 := b10) (m_X5_init (Q := _) ⟨(), rfl, ?_⟩ ey8) rfl rfl rfl dX7_init_113 rfl ck_X7_init_50 (Nat.le_of_ble_eq_true rfl) (tk_spec eb9) (tk_spec eb10) rfl
    obtain ⟨h11, eh11, hf⟩ := ob hf
    refine sp_pRF (pc := 116) pf_RX7_51 rfl dX7_init_116 rfl rfl eh11 ?_
    obtain rfl := Option.some.inj hf
    exact sp_return (pc := 119) dX7_init_119 rfl hQ
  · rw [if_neg c1] at hf
    refine sp_aload_n (pc := 79) dX7_init_79 0 rfl ?_
    obtain ⟨x12, ex12, hf⟩ := ob hf
    refine sp_gR (pc := 80) fl_RX7_40 dX7_init_80 ex12 ?_
    refine sp_iload_n (pc := 83) dX7_init_83 2 rfl ?_
    obtain ⟨b14, eb14, hf⟩ := ob hf
    obtain ⟨b15, eb15, hf⟩ := ob hf
    obtain ⟨h13, eh13, hf⟩ := ob hf
    obtain rfl := Option.some.inj eh13
    refine sp_new (pc := 84) (bc2 := b14) (bs2 := b15) nw_RX7_19 dX7_init_84 (tk_spec eb14) (tk_spec eb15) (fun hfr => ?_)
    refine sp_dup (pc := 87) dX7_init_87 rfl ?_
    refine sp_aload_n (pc := 88) dX7_init_88 1 rfl ?_
    refine sp_bipush (pc := 89) (v := 48) dX7_init_89 (by decide) ?_
    obtain ⟨b17, eb17, hf⟩ := ob hf
    obtain ⟨b18, eb18, hf⟩ := ob hf
    obtain ⟨y16, ey16, hf⟩ := ob hf
    refine sp_callIv (pc := 91) (z := M_X3_init) (As := [.ref v1, .int 48]) (b := q) (bc2 := b17) (bs2 := b18) (m_X3_init (Q := _) ⟨(), rfl, ?_⟩ ey16) rfl rfl rfl dX7_init_91 rfl ck_X7_init_21 (Nat.le_of_ble_eq_true rfl) (tk_spec eb17) (tk_spec eb18) rfl
    obtain ⟨h19, eh19, hf⟩ := ob hf
    refine sp_wR4 (pc := 94) dX7_init_94 eh19 ?_
    refine sp_iinc (pc := 95) (v := v2 + 1) (lv' := [(2, .int (v2 + 1)), (0, .ref v0), (1, .ref v1)]) dX7_init_95 2 rfl rfl (by decide) rfl ?_
    refine sp_goto (pc := 98) (tgt := 74) dX7_init_98 (by decide) ?_
    exact sp_sub [1, 2, 0] rfl (hk74 _ _ _ _ _ _ hf)

theorem w_X7_init_74 {l : Launch} {X : SCR} {Q : PST} {res : HP × Nat} (hQ : Q (.inl none) res.1 res.2) {v0 : Nat} : ∀ (n : Nat) {h : HP} {q bc bs : Nat} {v1 : Nat} {v2 : Int32}, b_X7_init_74 v0 n h q bc bs v1 v2 = some res → SP l X M_X7_init 74 [(0, .ref v0), (1, .ref v1), (2, .int v2)] [] h q bc bs Q := by
  intro n
  induction n with
  | zero =>
    intro h q bc bs v1 v2 hf
    rw [b_X7_init_74] at hf
    cases hf
  | succ n ih =>
    intro h q bc bs v1 v2 hf
    rw [b_X7_init_74] at hf
    exact wc_X7_init_74 hQ (fun h q bc bs v1 v2 hf => ih hf) hf

theorem w_X7_init_0 {l : Launch} {X : SCR} {Q : PST} {res : HP × Nat} {h : HP} {q bc bs : Nat} (hQ : Q (.inl none) res.1 res.2) {v0 : Nat} (hf : b_X7_init_0 v0 h q bc bs  = some res) : SP l X M_X7_init 0 [(0, .ref v0)] [] h q bc bs Q := by
  rw [b_X7_init_0] at hf
  refine sp_aload_n (pc := 0) dX7_init_0 0 rfl ?_
  refine sp_objInit (pc := 1) bk_29 bk_30 bk_31 dX7_init_1 (by decide) (Nat.le_of_ble_eq_true rfl) ?_
  obtain ⟨b2, eb2, hf⟩ := ob hf
  obtain ⟨b3, eb3, hf⟩ := ob hf
  obtain ⟨h1, eh1, hf⟩ := ob hf
  obtain rfl := Option.some.inj eh1
  refine sp_new (pc := 4) (bc2 := b2) (bs2 := b3) nw_RX7_9 dX7_init_4 (tk_spec eb2) (tk_spec eb3) (fun hfr => ?_)
  refine sp_dup (pc := 7) dX7_init_7 rfl ?_
  obtain ⟨b5, eb5, hf⟩ := ob hf
  obtain ⟨b6, eb6, hf⟩ := ob hf
  obtain ⟨y4, ey4, hf⟩ := ob hf
  refine sp_callIv (pc := 8) (z := M_X0_init) (As := []) (b := q) (bc2 := b5) (bs2 := b6) (m_X0_init (Q := _) ⟨(), rfl, ?_⟩ ey4) rfl rfl rfl dX7_init_8 rfl ck_X7_init_11 (Nat.le_of_ble_eq_true rfl) (tk_spec eb5) (tk_spec eb6) rfl
  refine sp_astore_n (pc := 11) (lv' := [(1, .ref q), (0, .ref v0)]) dX7_init_11 (by decide) rfl ?_
  refine sp_aload_n (pc := 12) dX7_init_12 1 rfl ?_
  obtain ⟨b8, eb8, hf⟩ := ob hf
  obtain ⟨b9, eb9, hf⟩ := ob hf
  obtain ⟨h7, eh7, hf⟩ := ob hf
  obtain rfl := Option.some.inj eh7
  refine sp_new (pc := 13) (bc2 := b8) (bs2 := b9) nw_RX7_12 dX7_init_13 (tk_spec eb8) (tk_spec eb9) (fun hfr => ?_)
  refine sp_dup (pc := 16) dX7_init_16 rfl ?_
  obtain ⟨b11, eb11, hf⟩ := ob hf
  obtain ⟨b12, eb12, hf⟩ := ob hf
  obtain ⟨y10, ey10, hf⟩ := ob hf
  refine sp_callIv (pc := 17) (z := M_X4_init) (As := []) (b := y4.2) (bc2 := b11) (bs2 := b12) (m_X4_init (Q := _) ⟨(), rfl, ?_⟩ ey10) rfl rfl rfl dX7_init_17 rfl ck_X7_init_14 (Nat.le_of_ble_eq_true rfl) (tk_spec eb11) (tk_spec eb12) rfl
  obtain ⟨h13, eh13, hf⟩ := ob hf
  refine sp_pRF (pc := 20) pf_RX7_15 rfl dX7_init_20 rfl rfl eh13 ?_
  refine sp_aload_n (pc := 23) dX7_init_23 1 rfl ?_
  obtain ⟨b15, eb15, hf⟩ := ob hf
  obtain ⟨b16, eb16, hf⟩ := ob hf
  obtain ⟨h14, eh14, hf⟩ := ob hf
  obtain rfl := Option.some.inj eh14
  refine sp_new (pc := 24) (bc2 := b15) (bs2 := b16) nw_RX7_19 dX7_init_24 (tk_spec eb15) (tk_spec eb16) (fun hfr => ?_)
  refine sp_dup (pc := 27) dX7_init_27 rfl ?_
  refine sp_aload_n (pc := 28) dX7_init_28 0 rfl ?_
  refine sp_bipush (pc := 29) (v := 48) dX7_init_29 (by decide) ?_
  obtain ⟨b18, eb18, hf⟩ := ob hf
  obtain ⟨b19, eb19, hf⟩ := ob hf
  obtain ⟨y17, ey17, hf⟩ := ob hf
  refine sp_callIv (pc := 31) (z := M_X3_init) (As := [.ref q, .int 48]) (b := y10.2) (bc2 := b18) (bs2 := b19) (m_X3_init (Q := _) ⟨(), rfl, ?_⟩ ey17) rfl rfl rfl dX7_init_31 rfl ck_X7_init_21 (Nat.le_of_ble_eq_true rfl) (tk_spec eb18) (tk_spec eb19) rfl
  obtain ⟨h20, eh20, hf⟩ := ob hf
  refine sp_pRF (pc := 34) pf_RX7_24 rfl dX7_init_34 rfl rfl eh20 ?_
  refine sp_aload_n (pc := 37) dX7_init_37 1 rfl ?_
  obtain ⟨b22, eb22, hf⟩ := ob hf
  obtain ⟨b23, eb23, hf⟩ := ob hf
  obtain ⟨h21, eh21, hf⟩ := ob hf
  obtain rfl := Option.some.inj eh21
  refine sp_new (pc := 38) (bc2 := b22) (bs2 := b23) nw_RX7_19 dX7_init_38 (tk_spec eb22) (tk_spec eb23) (fun hfr => ?_)
  refine sp_dup (pc := 41) dX7_init_41 rfl ?_
  refine sp_aload_n (pc := 42) dX7_init_42 0 rfl ?_
  refine sp_sipush (pc := 43) (v := 148) dX7_init_43 (by decide) ?_
  obtain ⟨b25, eb25, hf⟩ := ob hf
  obtain ⟨b26, eb26, hf⟩ := ob hf
  obtain ⟨y24, ey24, hf⟩ := ob hf
  refine sp_callIv (pc := 46) (z := M_X3_init) (As := [.ref q, .int 148]) (b := y17.2) (bc2 := b25) (bs2 := b26) (m_X3_init (Q := _) ⟨(), rfl, ?_⟩ ey24) rfl rfl rfl dX7_init_46 rfl ck_X7_init_21 (Nat.le_of_ble_eq_true rfl) (tk_spec eb25) (tk_spec eb26) rfl
  obtain ⟨h27, eh27, hf⟩ := ob hf
  refine sp_pRF (pc := 49) pf_RX7_28 rfl dX7_init_49 rfl rfl eh27 ?_
  refine sp_aload_n (pc := 52) dX7_init_52 1 rfl ?_
  obtain ⟨b29, eb29, hf⟩ := ob hf
  obtain ⟨b30, eb30, hf⟩ := ob hf
  obtain ⟨h28, eh28, hf⟩ := ob hf
  obtain rfl := Option.some.inj eh28
  refine sp_new (pc := 53) (bc2 := b29) (bs2 := b30) nw_RX7_31 dX7_init_53 (tk_spec eb29) (tk_spec eb30) (fun hfr => ?_)
  refine sp_dup (pc := 56) dX7_init_56 rfl ?_
  refine sp_aload_n (pc := 57) dX7_init_57 0 rfl ?_
  obtain ⟨b32, eb32, hf⟩ := ob hf
  obtain ⟨b33, eb33, hf⟩ := ob hf
  obtain ⟨y31, ey31, hf⟩ := ob hf
  refine sp_callIv (pc := 58) (z := M_X1_init) (As := [.ref q]) (b := y24.2) (bc2 := b32) (bs2 := b33) (m_X1_init (Q := _) ⟨(), rfl, ?_⟩ ey31) rfl rfl rfl dX7_init_58 rfl ck_X7_init_33 (Nat.le_of_ble_eq_true rfl) (tk_spec eb32) (tk_spec eb33) rfl
  obtain ⟨h34, eh34, hf⟩ := ob hf
  refine sp_pRF (pc := 61) pf_RX7_36 rfl dX7_init_61 rfl rfl eh34 ?_
  refine sp_aload_n (pc := 64) dX7_init_64 1 rfl ?_
  refine sp_iconst (pc := 65) (v := 2) dX7_init_65 (by decide) ?_
  obtain ⟨b35, eb35, hf⟩ := ob hf
  obtain ⟨h36, eh36, hf⟩ := ob hf
  obtain rfl := Option.some.inj eh36
  obtain ⟨g1b35, g2b35, g3b35, g4b35⟩ := alN_spec eb35
  refine sp_anew4 (pc := 66) (bc2 := b35.1) (bs2 := b35.2) bk_107 tk_150 dX7_init_66 g1b35 rfl (Nat.le_trans (Nat.mul_le_mul_left _ (by decide)) g2b35) g3b35 g4b35 (fun hfr => ?_)
  obtain ⟨h37, eh37, hf⟩ := ob hf
  refine sp_pRF (pc := 69) pf_RX7_40 rfl dX7_init_69 rfl rfl eh37 ?_
  refine sp_iconst (pc := 72) (v := 0) dX7_init_72 (by decide) ?_
  refine sp_istore_n (pc := 73) (lv' := [(2, .int 0), (1, .ref q), (0, .ref v0)]) dX7_init_73 (by decide) rfl ?_
  exact sp_sub [2, 1, 0] rfl (w_X7_init_74 hQ FU hf)

theorem m_X7_init {l : Launch} {Q : PST} {h : HP} {v0 : Nat} {sz : Nat} {res : HP × Nat} (hQ : Q (.inl none) res.1 res.2) (hf : f_X7_init h sz v0 = some res) : MM l M_X7_init [.ref v0] h sz Q := by
  rw [f_X7_init] at hf
  exact MM_of wok_X7_init (by decide +kernel) (Nat.le_of_ble_eq_true rfl) ((w_X7_init_0 hQ hf))

theorem dX7_seenNow_0 : decode (mB M_X7_seenNow) 0 = .ok (.aload_n 0, 1) := by decide +kernel
theorem dX7_seenNow_1 : decode (mB M_X7_seenNow) 1 = .ok (.getfield 51, 3) := by decide +kernel
theorem dX7_seenNow_4 : decode (mB M_X7_seenNow) 4 = .ok (.aload_n 1, 1) := by decide +kernel
theorem dX7_seenNow_5 : decode (mB M_X7_seenNow) 5 = .ok (.aload_n 1, 1) := by decide +kernel
theorem dX7_seenNow_6 : decode (mB M_X7_seenNow) 6 = .ok (.invokevirtual 98, 3) := by decide +kernel
theorem dX7_seenNow_9 : decode (mB M_X7_seenNow) 9 = .ok (.invokevirtual 122, 3) := by decide +kernel
theorem dX7_seenNow_12 : decode (mB M_X7_seenNow) 12 = .ok (.aload_n 0, 1) := by decide +kernel
theorem dX7_seenNow_13 : decode (mB M_X7_seenNow) 13 = .ok (.getfield 51, 3) := by decide +kernel
theorem dX7_seenNow_16 : decode (mB M_X7_seenNow) 16 = .ok (.iconst 0, 1) := by decide +kernel
theorem dX7_seenNow_17 : decode (mB M_X7_seenNow) 17 = .ok (.bipush 99, 2) := by decide +kernel
theorem dX7_seenNow_19 : decode (mB M_X7_seenNow) 19 = .ok (.invokevirtual 212, 3) := by decide +kernel
theorem dX7_seenNow_22 : decode (mB M_X7_seenNow) 22 = .ok (.ireturn, 1) := by decide +kernel
def b_X7_seenNow_0 (v0 : Nat) (v1 : Nat) (h : HP) : Option (Int32 × HP) :=
  (gR 7 6 h v0).bind fun x1 => (f_X3_latest h v1).bind fun y2 => (f_X5_look h x1 v1 y2).bind fun y3 => (gR 7 6 y3 v0).bind fun x4 => (f_X5_seenIn y3 x4 0 99).bind fun y5 => some (y5, y3)
def f_X7_seenNow (h : HP) (v0 : Nat) (v1 : Nat) : Option (Int32 × HP) := (kO 7 h v0).bind fun _ => b_X7_seenNow_0 v0 v1 h
theorem w_X7_seenNow_0 {l : Launch} {X : SCR} {Q : PST} {bc bs : Nat} {res : Int32 × HP} {h : HP} (hQ : ∀ sz', Q (.inl (some (.int res.1))) res.2 sz') {v0 : Nat} {v1 : Nat} {sz : Nat} (hf : b_X7_seenNow_0 v0 v1 h  = some res) : SP l X M_X7_seenNow 0 [(0, .ref v0), (1, .ref v1)] [] h sz bc bs Q := by
  rw [b_X7_seenNow_0] at hf
  refine sp_aload_n (pc := 0) dX7_seenNow_0 0 rfl ?_
  obtain ⟨x1, ex1, hf⟩ := ob hf
  refine sp_gR (pc := 1) fl_RX7_51 dX7_seenNow_1 ex1 ?_
  refine sp_aload_n (pc := 4) dX7_seenNow_4 1 rfl ?_
  refine sp_aload_n (pc := 5) dX7_seenNow_5 1 rfl ?_
  obtain ⟨y2, ey2, hf⟩ := ob hf
  obtain ⟨fsy2, hoy2⟩ := o_X3_latest ey2
  refine sp_callVi (pc := 6) (z := M_X3_latest) (As := []) (b := v1) (bc2 := bc) (bs2 := bs) (m_X3_latest (Q := _) (fun sz => ⟨y2, rfl, ?_⟩) ey2) rfl dX7_seenNow_6 hoy2 rfl rfl ck_X7_seenNow_98 (Nat.le_of_ble_eq_true rfl) rfl rfl rfl
  obtain ⟨y3, ey3, hf⟩ := ob hf
  obtain ⟨fsy3, hoy3⟩ := o_X5_look ey3
  refine sp_callVv (pc := 9) (z := M_X5_look) (As := [.ref v1, .int y2]) (b := x1) (bc2 := bc) (bs2 := bs) (m_X5_look (Q := _) (fun sz => ⟨(), rfl, ?_⟩) ey3) rfl dX7_seenNow_9 hoy3 rfl rfl ck_X7_seenNow_122 (Nat.le_of_ble_eq_true rfl) rfl rfl rfl
  refine sp_aload_n (pc := 12) dX7_seenNow_12 0 rfl ?_
  obtain ⟨x4, ex4, hf⟩ := ob hf
  refine sp_gR (pc := 13) fl_RX7_51 dX7_seenNow_13 ex4 ?_
  refine sp_iconst (pc := 16) (v := 0) dX7_seenNow_16 (by decide) ?_
  refine sp_bipush (pc := 17) (v := 99) dX7_seenNow_17 (by decide) ?_
  obtain ⟨y5, ey5, hf⟩ := ob hf
  obtain ⟨fsy5, hoy5⟩ := o_X5_seenIn ey5
  refine sp_callVi (pc := 19) (z := M_X5_seenIn) (As := [.int 0, .int 99]) (b := x4) (bc2 := bc) (bs2 := bs) (m_X5_seenIn (Q := _) (fun sz => ⟨y5, rfl, ?_⟩) ey5) rfl dX7_seenNow_19 hoy5 rfl rfl ck_X7_seenNow_212 (Nat.le_of_ble_eq_true rfl) rfl rfl rfl
  obtain rfl := Option.some.inj hf
  exact sp_ireturn (pc := 22) dX7_seenNow_22 rfl rfl (hQ _)

theorem o_X7_seenNow {h : HP} {v0 : Nat} {v1 : Nat} {res : Int32 × HP} (hf : f_X7_seenNow h v0 v1 = some res) : ∃ fs, h v0 = some (.inr (7, fs)) := by
  obtain ⟨u, eu, -⟩ := ob hf
  exact kO_spec eu

theorem m_X7_seenNow {l : Launch} {Q : PST} {h : HP} {v0 : Nat} {v1 : Nat} {sz : Nat} {res : Int32 × HP} (hQ : ∀ sz', Q (.inl (some (.int res.1))) res.2 sz') (hf : f_X7_seenNow h v0 v1 = some res) : MM l M_X7_seenNow [.ref v0, .ref v1] h sz Q := by
  obtain ⟨u, eu, hf⟩ := ob hf
  exact MM_of wok_X7_seenNow (by decide +kernel) (Nat.le_of_ble_eq_true rfl) ((w_X7_seenNow_0 hQ hf))

theorem dX7_about_0 : decode (mB M_X7_about) 0 = .ok (.iload_n 1, 1) := by decide +kernel
theorem dX7_about_1 : decode (mB M_X7_about) 1 = .ok (.tableswitch 151 0 8 #[51, 59, 68, 76, 84, 92, 108, 117, 143], 51) := by decide +kernel
theorem dX7_about_52 : decode (mB M_X7_about) 52 = .ok (.aload_n 0, 1) := by decide +kernel
theorem dX7_about_53 : decode (mB M_X7_about) 53 = .ok (.getfield 24, 3) := by decide +kernel
theorem dX7_about_56 : decode (mB M_X7_about) 56 = .ok (.invokevirtual 98, 3) := by decide +kernel
theorem dX7_about_59 : decode (mB M_X7_about) 59 = .ok (.ireturn, 1) := by decide +kernel
theorem dX7_about_60 : decode (mB M_X7_about) 60 = .ok (.aload_n 0, 1) := by decide +kernel
theorem dX7_about_61 : decode (mB M_X7_about) 61 = .ok (.getfield 24, 3) := by decide +kernel
theorem dX7_about_64 : decode (mB M_X7_about) 64 = .ok (.iconst (-1), 1) := by decide +kernel
theorem dX7_about_65 : decode (mB M_X7_about) 65 = .ok (.invokevirtual 101, 3) := by decide +kernel
theorem dX7_about_68 : decode (mB M_X7_about) 68 = .ok (.ireturn, 1) := by decide +kernel
theorem dX7_about_69 : decode (mB M_X7_about) 69 = .ok (.aload_n 0, 1) := by decide +kernel
theorem dX7_about_70 : decode (mB M_X7_about) 70 = .ok (.getfield 24, 3) := by decide +kernel
theorem dX7_about_73 : decode (mB M_X7_about) 73 = .ok (.invokevirtual 105, 3) := by decide +kernel
theorem dX7_about_76 : decode (mB M_X7_about) 76 = .ok (.ireturn, 1) := by decide +kernel
theorem dX7_about_77 : decode (mB M_X7_about) 77 = .ok (.aload_n 0, 1) := by decide +kernel
theorem dX7_about_78 : decode (mB M_X7_about) 78 = .ok (.getfield 24, 3) := by decide +kernel
theorem dX7_about_81 : decode (mB M_X7_about) 81 = .ok (.invokevirtual 108, 3) := by decide +kernel
theorem dX7_about_84 : decode (mB M_X7_about) 84 = .ok (.ireturn, 1) := by decide +kernel
theorem dX7_about_85 : decode (mB M_X7_about) 85 = .ok (.aload_n 0, 1) := by decide +kernel
theorem dX7_about_86 : decode (mB M_X7_about) 86 = .ok (.getfield 24, 3) := by decide +kernel
theorem dX7_about_89 : decode (mB M_X7_about) 89 = .ok (.invokevirtual 111, 3) := by decide +kernel
theorem dX7_about_92 : decode (mB M_X7_about) 92 = .ok (.ireturn, 1) := by decide +kernel
theorem dX7_about_93 : decode (mB M_X7_about) 93 = .ok (.aload_n 0, 1) := by decide +kernel
theorem dX7_about_94 : decode (mB M_X7_about) 94 = .ok (.getfield 24, 3) := by decide +kernel
theorem dX7_about_97 : decode (mB M_X7_about) 97 = .ok (.iconst 0, 1) := by decide +kernel
theorem dX7_about_98 : decode (mB M_X7_about) 98 = .ok (.aload_n 0, 1) := by decide +kernel
theorem dX7_about_99 : decode (mB M_X7_about) 99 = .ok (.getfield 24, 3) := by decide +kernel
theorem dX7_about_102 : decode (mB M_X7_about) 102 = .ok (.invokevirtual 111, 3) := by decide +kernel
theorem dX7_about_105 : decode (mB M_X7_about) 105 = .ok (.invokevirtual 114, 3) := by decide +kernel
theorem dX7_about_108 : decode (mB M_X7_about) 108 = .ok (.ireturn, 1) := by decide +kernel
theorem dX7_about_109 : decode (mB M_X7_about) 109 = .ok (.aload_n 0, 1) := by decide +kernel
theorem dX7_about_110 : decode (mB M_X7_about) 110 = .ok (.aload_n 0, 1) := by decide +kernel
theorem dX7_about_111 : decode (mB M_X7_about) 111 = .ok (.getfield 24, 3) := by decide +kernel
theorem dX7_about_114 : decode (mB M_X7_about) 114 = .ok (.invokevirtual 118, 3) := by decide +kernel
theorem dX7_about_117 : decode (mB M_X7_about) 117 = .ok (.ireturn, 1) := by decide +kernel
theorem dX7_about_118 : decode (mB M_X7_about) 118 = .ok (.aload_n 0, 1) := by decide +kernel
theorem dX7_about_119 : decode (mB M_X7_about) 119 = .ok (.getfield 51, 3) := by decide +kernel
theorem dX7_about_122 : decode (mB M_X7_about) 122 = .ok (.aload_n 0, 1) := by decide +kernel
theorem dX7_about_123 : decode (mB M_X7_about) 123 = .ok (.getfield 24, 3) := by decide +kernel
theorem dX7_about_126 : decode (mB M_X7_about) 126 = .ok (.aload_n 0, 1) := by decide +kernel
theorem dX7_about_127 : decode (mB M_X7_about) 127 = .ok (.getfield 24, 3) := by decide +kernel
theorem dX7_about_130 : decode (mB M_X7_about) 130 = .ok (.invokevirtual 98, 3) := by decide +kernel
theorem dX7_about_133 : decode (mB M_X7_about) 133 = .ok (.invokevirtual 122, 3) := by decide +kernel
theorem dX7_about_136 : decode (mB M_X7_about) 136 = .ok (.aload_n 0, 1) := by decide +kernel
theorem dX7_about_137 : decode (mB M_X7_about) 137 = .ok (.getfield 51, 3) := by decide +kernel
theorem dX7_about_140 : decode (mB M_X7_about) 140 = .ok (.invokevirtual 126, 3) := by decide +kernel
theorem dX7_about_143 : decode (mB M_X7_about) 143 = .ok (.ireturn, 1) := by decide +kernel
theorem dX7_about_144 : decode (mB M_X7_about) 144 = .ok (.aload_n 0, 1) := by decide +kernel
theorem dX7_about_145 : decode (mB M_X7_about) 145 = .ok (.getfield 24, 3) := by decide +kernel
theorem dX7_about_148 : decode (mB M_X7_about) 148 = .ok (.invokevirtual 129, 3) := by decide +kernel
theorem dX7_about_151 : decode (mB M_X7_about) 151 = .ok (.ireturn, 1) := by decide +kernel
theorem dX7_about_152 : decode (mB M_X7_about) 152 = .ok (.new 55, 3) := by decide +kernel
theorem dX7_about_155 : decode (mB M_X7_about) 155 = .ok (.dup, 1) := by decide +kernel
theorem dX7_about_156 : decode (mB M_X7_about) 156 = .ok (.ldc 132, 2) := by decide +kernel
theorem dX7_about_158 : decode (mB M_X7_about) 158 = .ok (.invokespecial 59, 3) := by decide +kernel
theorem dX7_about_161 : decode (mB M_X7_about) 161 = .ok (.athrow, 1) := by decide +kernel
def b_X7_about_0 (v0 : Nat) (v1 : Int32) (h : HP) : Option ((Int32 ⊕ String) × HP) :=
  if v1 = 0 then (gR 7 1 h v0).bind fun x2 => (f_X3_latest h x2).bind fun y3 => some (.inl y3, h) else if v1 = 1 then (gR 7 1 h v0).bind fun x5 => (f_X3_sizeOf h x5 (-1)).bind fun y6 => some (.inl y6, h) else if v1 = 2 then (gR 7 1 h v0).bind fun x8 => (f_X3_runs h x8).bind fun y9 => some (.inl y9, h) else if v1 = 3 then (gR 7 1 h v0).bind fun x11 => (f_X3_eyes h x11).bind fun y12 => some (.inl y12, h) else if v1 = 4 then (gR 7 1 h v0).bind fun x14 => (f_X3_size h x14).bind fun y15 => some (.inl y15, h) else if v1 = 5 then (gR 7 1 h v0).bind fun x17 => (gR 7 1 h v0).bind fun x18 => (f_X3_size h x18).bind fun y19 => (f_X3_entriesIn h x17 0 y19).bind fun y20 => some (.inl y20, h) else if v1 = 6 then (gR 7 1 h v0).bind fun x22 => (f_X7_seenNow h v0 x22).bind fun y23 => some (.inl y23.1, y23.2) else if v1 = 7 then (gR 7 6 h v0).bind fun x25 => (gR 7 1 h v0).bind fun x26 => (gR 7 1 h v0).bind fun x27 => (f_X3_latest h x27).bind fun y28 => (f_X5_look h x25 x26 y28).bind fun y29 => (gR 7 6 y29 v0).bind fun x30 => (f_X5_sum y29 x30).bind fun y31 => some (.inl y31, y29) else if v1 = 8 then (gR 7 1 h v0).bind fun x33 => (f_X3_fewer h x33).bind fun y34 => some (.inl y34, h) else some (.inr "java/lang/IllegalArgumentException", h)
def f_X7_about (h : HP) (v0 : Nat) (v1 : Int32) : Option ((Int32 ⊕ String) × HP) := (kO 7 h v0).bind fun _ => b_X7_about_0 v0 v1 h
theorem w_X7_about_0 {l : Launch} {X : SCR} {Q : PST} {bc bs : Nat} {res : (Int32 ⊕ String) × HP} {h : HP} (hQ : ∀ sz', Q (outT res.1) res.2 sz') (hno : ∀ E, res.1 ≠ .inr E) {v0 : Nat} {v1 : Int32} {sz : Nat} (hf : b_X7_about_0 v0 v1 h  = some res) : SP l X M_X7_about 0 [(0, .ref v0), (1, .int v1)] [] h sz bc bs Q := by
  rw [b_X7_about_0] at hf
  refine sp_iload_n (pc := 0) dX7_about_0 1 rfl ?_
  by_cases c1 : v1 = 0
  · rw [if_pos c1] at hf
    refine sp_tableIn (pc := 1) (off := 51) (tgt := 52) dX7_about_1 (by rw [c1]; decide) (by rw [c1]; decide) (by rw [c1]; rfl) (by decide) ?_
    refine sp_aload_n (pc := 52) dX7_about_52 0 rfl ?_
    obtain ⟨x2, ex2, hf⟩ := ob hf
    refine sp_gR (pc := 53) fl_RX7_24 dX7_about_53 ex2 ?_
    obtain ⟨y3, ey3, hf⟩ := ob hf
    obtain ⟨fsy3, hoy3⟩ := o_X3_latest ey3
    refine sp_callVi (pc := 56) (z := M_X3_latest) (As := []) (b := x2) (bc2 := bc) (bs2 := bs) (m_X3_latest (Q := _) (fun sz => ⟨y3, rfl, ?_⟩) ey3) rfl dX7_about_56 hoy3 rfl rfl ck_X7_about_98 (Nat.le_of_ble_eq_true rfl) rfl rfl rfl
    obtain rfl := Option.some.inj hf
    exact sp_ireturn (pc := 59) dX7_about_59 rfl rfl (hQ _)
  rw [if_neg c1] at hf
  by_cases c4 : v1 = 1
  · rw [if_pos c4] at hf
    refine sp_tableIn (pc := 1) (off := 59) (tgt := 60) dX7_about_1 (by rw [c4]; decide) (by rw [c4]; decide) (by rw [c4]; rfl) (by decide) ?_
    refine sp_aload_n (pc := 60) dX7_about_60 0 rfl ?_
    obtain ⟨x5, ex5, hf⟩ := ob hf
    refine sp_gR (pc := 61) fl_RX7_24 dX7_about_61 ex5 ?_
    refine sp_iconst (pc := 64) (v := (-1)) dX7_about_64 (by decide) ?_
    obtain ⟨y6, ey6, hf⟩ := ob hf
    obtain ⟨fsy6, hoy6⟩ := o_X3_sizeOf ey6
    refine sp_callVi (pc := 65) (z := M_X3_sizeOf) (As := [.int (-1)]) (b := x5) (bc2 := bc) (bs2 := bs) (m_X3_sizeOf (Q := _) (fun sz => ⟨y6, rfl, ?_⟩) ey6) rfl dX7_about_65 hoy6 rfl rfl ck_X7_about_101 (Nat.le_of_ble_eq_true rfl) rfl rfl rfl
    obtain rfl := Option.some.inj hf
    exact sp_ireturn (pc := 68) dX7_about_68 rfl rfl (hQ _)
  rw [if_neg c4] at hf
  by_cases c7 : v1 = 2
  · rw [if_pos c7] at hf
    refine sp_tableIn (pc := 1) (off := 68) (tgt := 69) dX7_about_1 (by rw [c7]; decide) (by rw [c7]; decide) (by rw [c7]; rfl) (by decide) ?_
    refine sp_aload_n (pc := 69) dX7_about_69 0 rfl ?_
    obtain ⟨x8, ex8, hf⟩ := ob hf
    refine sp_gR (pc := 70) fl_RX7_24 dX7_about_70 ex8 ?_
    obtain ⟨y9, ey9, hf⟩ := ob hf
    obtain ⟨fsy9, hoy9⟩ := o_X3_runs ey9
    refine sp_callVi (pc := 73) (z := M_X3_runs) (As := []) (b := x8) (bc2 := bc) (bs2 := bs) (m_X3_runs (Q := _) (fun sz => ⟨y9, rfl, ?_⟩) ey9) rfl dX7_about_73 hoy9 rfl rfl ck_X7_about_105 (Nat.le_of_ble_eq_true rfl) rfl rfl rfl
    obtain rfl := Option.some.inj hf
    exact sp_ireturn (pc := 76) dX7_about_76 rfl rfl (hQ _)
  rw [if_neg c7] at hf
  by_cases c10 : v1 = 3
  · rw [if_pos c10] at hf
    refine sp_tableIn (pc := 1) (off := 76) (tgt := 77) dX7_about_1 (by rw [c10]; decide) (by rw [c10]; decide) (by rw [c10]; rfl) (by decide) ?_
    refine sp_aload_n (pc := 77) dX7_about_77 0 rfl ?_
    obtain ⟨x11, ex11, hf⟩ := ob hf
    refine sp_gR (pc := 78) fl_RX7_24 dX7_about_78 ex11 ?_
    obtain ⟨y12, ey12, hf⟩ := ob hf
    obtain ⟨fsy12, hoy12⟩ := o_X3_eyes ey12
    refine sp_callVi (pc := 81) (z := M_X3_eyes) (As := []) (b := x11) (bc2 := bc) (bs2 := bs) (m_X3_eyes (Q := _) (fun sz => ⟨y12, rfl, ?_⟩) ey12) rfl dX7_about_81 hoy12 rfl rfl ck_X7_about_108 (Nat.le_of_ble_eq_true rfl) rfl rfl rfl
    obtain rfl := Option.some.inj hf
    exact sp_ireturn (pc := 84) dX7_about_84 rfl rfl (hQ _)
  rw [if_neg c10] at hf
  by_cases c13 : v1 = 4
  · rw [if_pos c13] at hf
    refine sp_tableIn (pc := 1) (off := 84) (tgt := 85) dX7_about_1 (by rw [c13]; decide) (by rw [c13]; decide) (by rw [c13]; rfl) (by decide) ?_
    refine sp_aload_n (pc := 85) dX7_about_85 0 rfl ?_
    obtain ⟨x14, ex14, hf⟩ := ob hf
    refine sp_gR (pc := 86) fl_RX7_24 dX7_about_86 ex14 ?_
    obtain ⟨y15, ey15, hf⟩ := ob hf
    obtain ⟨fsy15, hoy15⟩ := o_X3_size ey15
    refine sp_callVi (pc := 89) (z := M_X3_size) (As := []) (b := x14) (bc2 := bc) (bs2 := bs) (m_X3_size (Q := _) (fun sz => ⟨y15, rfl, ?_⟩) ey15) rfl dX7_about_89 hoy15 rfl rfl ck_X7_about_111 (Nat.le_of_ble_eq_true rfl) rfl rfl rfl
    obtain rfl := Option.some.inj hf
    exact sp_ireturn (pc := 92) dX7_about_92 rfl rfl (hQ _)
  rw [if_neg c13] at hf
  by_cases c16 : v1 = 5
  · rw [if_pos c16] at hf
    refine sp_tableIn (pc := 1) (off := 92) (tgt := 93) dX7_about_1 (by rw [c16]; decide) (by rw [c16]; decide) (by rw [c16]; rfl) (by decide) ?_
    refine sp_aload_n (pc := 93) dX7_about_93 0 rfl ?_
    obtain ⟨x17, ex17, hf⟩ := ob hf
    refine sp_gR (pc := 94) fl_RX7_24 dX7_about_94 ex17 ?_
    refine sp_iconst (pc := 97) (v := 0) dX7_about_97 (by decide) ?_
    refine sp_aload_n (pc := 98) dX7_about_98 0 rfl ?_
    obtain ⟨x18, ex18, hf⟩ := ob hf
    refine sp_gR (pc := 99) fl_RX7_24 dX7_about_99 ex18 ?_
    obtain ⟨y19, ey19, hf⟩ := ob hf
    obtain ⟨fsy19, hoy19⟩ := o_X3_size ey19
    refine sp_callVi (pc := 102) (z := M_X3_size) (As := []) (b := x18) (bc2 := bc) (bs2 := bs) (m_X3_size (Q := _) (fun sz => ⟨y19, rfl, ?_⟩) ey19) rfl dX7_about_102 hoy19 rfl rfl ck_X7_about_111 (Nat.le_of_ble_eq_true rfl) rfl rfl rfl
    obtain ⟨y20, ey20, hf⟩ := ob hf
    obtain ⟨fsy20, hoy20⟩ := o_X3_entriesIn ey20
    refine sp_callVi (pc := 105) (z := M_X3_entriesIn) (As := [.int 0, .int y19]) (b := x17) (bc2 := bc) (bs2 := bs) (m_X3_entriesIn (Q := _) (fun sz => ⟨y20, rfl, ?_⟩) ey20) rfl dX7_about_105 hoy20 rfl rfl ck_X7_about_114 (Nat.le_of_ble_eq_true rfl) rfl rfl rfl
    obtain rfl := Option.some.inj hf
    exact sp_ireturn (pc := 108) dX7_about_108 rfl rfl (hQ _)
  rw [if_neg c16] at hf
  by_cases c21 : v1 = 6
  · rw [if_pos c21] at hf
    refine sp_tableIn (pc := 1) (off := 108) (tgt := 109) dX7_about_1 (by rw [c21]; decide) (by rw [c21]; decide) (by rw [c21]; rfl) (by decide) ?_
    refine sp_aload_n (pc := 109) dX7_about_109 0 rfl ?_
    refine sp_aload_n (pc := 110) dX7_about_110 0 rfl ?_
    obtain ⟨x22, ex22, hf⟩ := ob hf
    refine sp_gR (pc := 111) fl_RX7_24 dX7_about_111 ex22 ?_
    obtain ⟨y23, ey23, hf⟩ := ob hf
    obtain ⟨fsy23, hoy23⟩ := o_X7_seenNow ey23
    refine sp_callVi (pc := 114) (z := M_X7_seenNow) (As := [.ref x22]) (b := v0) (bc2 := bc) (bs2 := bs) (m_X7_seenNow (Q := _) (fun sz => ⟨y23.1, rfl, ?_⟩) ey23) rfl dX7_about_114 hoy23 rfl rfl ck_X7_about_118 (Nat.le_of_ble_eq_true rfl) rfl rfl rfl
    obtain rfl := Option.some.inj hf
    exact sp_ireturn (pc := 117) dX7_about_117 rfl rfl (hQ _)
  rw [if_neg c21] at hf
  by_cases c24 : v1 = 7
  · rw [if_pos c24] at hf
    refine sp_tableIn (pc := 1) (off := 117) (tgt := 118) dX7_about_1 (by rw [c24]; decide) (by rw [c24]; decide) (by rw [c24]; rfl) (by decide) ?_
    refine sp_aload_n (pc := 118) dX7_about_118 0 rfl ?_
    obtain ⟨x25, ex25, hf⟩ := ob hf
    refine sp_gR (pc := 119) fl_RX7_51 dX7_about_119 ex25 ?_
    refine sp_aload_n (pc := 122) dX7_about_122 0 rfl ?_
    obtain ⟨x26, ex26, hf⟩ := ob hf
    refine sp_gR (pc := 123) fl_RX7_24 dX7_about_123 ex26 ?_
    refine sp_aload_n (pc := 126) dX7_about_126 0 rfl ?_
    obtain ⟨x27, ex27, hf⟩ := ob hf
    refine sp_gR (pc := 127) fl_RX7_24 dX7_about_127 ex27 ?_
    obtain ⟨y28, ey28, hf⟩ := ob hf
    obtain ⟨fsy28, hoy28⟩ := o_X3_latest ey28
    refine sp_callVi (pc := 130) (z := M_X3_latest) (As := []) (b := x27) (bc2 := bc) (bs2 := bs) (m_X3_latest (Q := _) (fun sz => ⟨y28, rfl, ?_⟩) ey28) rfl dX7_about_130 hoy28 rfl rfl ck_X7_about_98 (Nat.le_of_ble_eq_true rfl) rfl rfl rfl
    obtain ⟨y29, ey29, hf⟩ := ob hf
    obtain ⟨fsy29, hoy29⟩ := o_X5_look ey29
    refine sp_callVv (pc := 133) (z := M_X5_look) (As := [.ref x26, .int y28]) (b := x25) (bc2 := bc) (bs2 := bs) (m_X5_look (Q := _) (fun sz => ⟨(), rfl, ?_⟩) ey29) rfl dX7_about_133 hoy29 rfl rfl ck_X7_about_122 (Nat.le_of_ble_eq_true rfl) rfl rfl rfl
    refine sp_aload_n (pc := 136) dX7_about_136 0 rfl ?_
    obtain ⟨x30, ex30, hf⟩ := ob hf
    refine sp_gR (pc := 137) fl_RX7_51 dX7_about_137 ex30 ?_
    obtain ⟨y31, ey31, hf⟩ := ob hf
    obtain ⟨fsy31, hoy31⟩ := o_X5_sum ey31
    refine sp_callVi (pc := 140) (z := M_X5_sum) (As := []) (b := x30) (bc2 := bc) (bs2 := bs) (m_X5_sum (Q := _) (fun sz => ⟨y31, rfl, ?_⟩) ey31) rfl dX7_about_140 hoy31 rfl rfl ck_X7_about_126 (Nat.le_of_ble_eq_true rfl) rfl rfl rfl
    obtain rfl := Option.some.inj hf
    exact sp_ireturn (pc := 143) dX7_about_143 rfl rfl (hQ _)
  rw [if_neg c24] at hf
  by_cases c32 : v1 = 8
  · rw [if_pos c32] at hf
    refine sp_tableIn (pc := 1) (off := 143) (tgt := 144) dX7_about_1 (by rw [c32]; decide) (by rw [c32]; decide) (by rw [c32]; rfl) (by decide) ?_
    refine sp_aload_n (pc := 144) dX7_about_144 0 rfl ?_
    obtain ⟨x33, ex33, hf⟩ := ob hf
    refine sp_gR (pc := 145) fl_RX7_24 dX7_about_145 ex33 ?_
    obtain ⟨y34, ey34, hf⟩ := ob hf
    obtain ⟨fsy34, hoy34⟩ := o_X3_fewer ey34
    refine sp_callVi (pc := 148) (z := M_X3_fewer) (As := []) (b := x33) (bc2 := bc) (bs2 := bs) (m_X3_fewer (Q := _) (fun sz => ⟨y34, rfl, ?_⟩) ey34) rfl dX7_about_148 hoy34 rfl rfl ck_X7_about_129 (Nat.le_of_ble_eq_true rfl) rfl rfl rfl
    obtain rfl := Option.some.inj hf
    exact sp_ireturn (pc := 151) dX7_about_151 rfl rfl (hQ _)
  rw [if_neg c32] at hf
  refine sp_tableOut (pc := 1) (tgt := 152) dX7_about_1 (tbl_out (fun i h1 h2 he => ?_)) (by decide) ?_
  · rcases (show i = 0 ∨ i = 1 ∨ i = 2 ∨ i = 3 ∨ i = 4 ∨ i = 5 ∨ i = 6 ∨ i = 7 ∨ i = 8 by omega) with rfl | rfl | rfl | rfl | rfl | rfl | rfl | rfl | rfl
    · exact c1 (Int32.toInt_inj.mp (he.trans (by decide)))
    · exact c4 (Int32.toInt_inj.mp (he.trans (by decide)))
    · exact c7 (Int32.toInt_inj.mp (he.trans (by decide)))
    · exact c10 (Int32.toInt_inj.mp (he.trans (by decide)))
    · exact c13 (Int32.toInt_inj.mp (he.trans (by decide)))
    · exact c16 (Int32.toInt_inj.mp (he.trans (by decide)))
    · exact c21 (Int32.toInt_inj.mp (he.trans (by decide)))
    · exact c24 (Int32.toInt_inj.mp (he.trans (by decide)))
    · exact c32 (Int32.toInt_inj.mp (he.trans (by decide)))
  obtain rfl := Option.some.inj hf
  exact absurd rfl (hno _)

theorem o_X7_about {h : HP} {v0 : Nat} {v1 : Int32} {res : (Int32 ⊕ String) × HP} (hf : f_X7_about h v0 v1 = some res) : ∃ fs, h v0 = some (.inr (7, fs)) := by
  obtain ⟨u, eu, -⟩ := ob hf
  exact kO_spec eu

theorem m_X7_about {l : Launch} {Q : PST} {h : HP} {v0 : Nat} {v1 : Int32} {sz : Nat} {res : (Int32 ⊕ String) × HP} (hQ : ∀ sz', Q (outT res.1) res.2 sz') (hno : ∀ E, res.1 ≠ .inr E) (hf : f_X7_about h v0 v1 = some res) : MM l M_X7_about [.ref v0, .int v1] h sz Q := by
  obtain ⟨u, eu, hf⟩ := ob hf
  exact MM_of wok_X7_about (by decide +kernel) (Nat.le_of_ble_eq_true rfl) ((w_X7_about_0 hQ hno hf))

theorem dX7_isKey_0 : decode (mB M_X7_isKey) 0 = .ok (.iload_n 0, 1) := by decide +kernel
theorem dX7_isKey_1 : decode (mB M_X7_isKey) 1 = .ok (.ifCond .lt 13, 3) := by decide +kernel
theorem dX7_isKey_4 : decode (mB M_X7_isKey) 4 = .ok (.iload_n 0, 1) := by decide +kernel
theorem dX7_isKey_5 : decode (mB M_X7_isKey) 5 = .ok (.bipush 100, 2) := by decide +kernel
theorem dX7_isKey_7 : decode (mB M_X7_isKey) 7 = .ok (.if_icmp .ge 7, 3) := by decide +kernel
theorem dX7_isKey_10 : decode (mB M_X7_isKey) 10 = .ok (.iconst 1, 1) := by decide +kernel
theorem dX7_isKey_11 : decode (mB M_X7_isKey) 11 = .ok (.goto 4, 3) := by decide +kernel
theorem dX7_isKey_14 : decode (mB M_X7_isKey) 14 = .ok (.iconst 0, 1) := by decide +kernel
theorem dX7_isKey_15 : decode (mB M_X7_isKey) 15 = .ok (.ireturn, 1) := by decide +kernel
def b_X7_isKey_0 (h : HP) (v0 : Int32) : Option (Int32) :=
  if v0 < 0 then some (0) else if 100 ≤ v0 then some (0) else some (1)
def f_X7_isKey (h : HP) (v0 : Int32) : Option (Int32) := b_X7_isKey_0 h v0
theorem w_X7_isKey_0 {l : Launch} {X : SCR} {Q : PST} {bc bs : Nat} {res : Int32} {h : HP} (hQ : ∀ sz', Q (.inl (some (.int res))) h sz') {v0 : Int32} {sz : Nat} (hf : b_X7_isKey_0 h v0  = some res) : SP l X M_X7_isKey 0 [(0, .int v0)] [] h sz bc bs Q := by
  rw [b_X7_isKey_0] at hf
  refine sp_iload_n (pc := 0) dX7_isKey_0 0 rfl ?_
  refine sp_if_lt (pc := 1) (tgt := 14) dX7_isKey_1 (by decide) (fun c1 => ?_) (fun c1 => ?_)
  · rw [if_pos c1] at hf
    refine sp_iconst (pc := 14) (v := 0) dX7_isKey_14 (by decide) ?_
    obtain rfl := Option.some.inj hf
    exact sp_ireturn (pc := 15) dX7_isKey_15 rfl rfl (hQ _)
  · rw [if_neg c1] at hf
    refine sp_iload_n (pc := 4) dX7_isKey_4 0 rfl ?_
    refine sp_bipush (pc := 5) (v := 100) dX7_isKey_5 (by decide) ?_
    refine sp_icmp_ge (pc := 7) (tgt := 14) dX7_isKey_7 (by decide) (fun c2 => ?_) (fun c2 => ?_)
    · rw [if_pos c2] at hf
      refine sp_iconst (pc := 14) (v := 0) dX7_isKey_14 (by decide) ?_
      obtain rfl := Option.some.inj hf
      exact sp_ireturn (pc := 15) dX7_isKey_15 rfl rfl (hQ _)
    · rw [if_neg c2] at hf
      refine sp_iconst (pc := 10) (v := 1) dX7_isKey_10 (by decide) ?_
      refine sp_goto (pc := 11) (tgt := 15) dX7_isKey_11 (by decide) ?_
      obtain rfl := Option.some.inj hf
      exact sp_ireturn (pc := 15) dX7_isKey_15 rfl rfl (hQ _)

theorem m_X7_isKey {l : Launch} {Q : PST} {h : HP} {v0 : Int32} {sz : Nat} {res : Int32} (hQ : ∀ sz', Q (.inl (some (.int res))) h sz') (hf : f_X7_isKey h v0 = some res) : MM l M_X7_isKey [.int v0] h sz Q := by
  rw [f_X7_isKey] at hf
  exact MM_of wok_X7_isKey (by decide +kernel) (Nat.le_of_ble_eq_true rfl) ((w_X7_isKey_0 hQ hf))

theorem dX7_get_0 : decode (mB M_X7_get) 0 = .ok (.iload_n 1, 1) := by decide +kernel
theorem dX7_get_1 : decode (mB M_X7_get) 1 = .ok (.invokestatic 134, 3) := by decide +kernel
theorem dX7_get_4 : decode (mB M_X7_get) 4 = .ok (.ifCond .eq 14, 3) := by decide +kernel
theorem dX7_get_7 : decode (mB M_X7_get) 7 = .ok (.aload_n 0, 1) := by decide +kernel
theorem dX7_get_8 : decode (mB M_X7_get) 8 = .ok (.getfield 24, 3) := by decide +kernel
theorem dX7_get_11 : decode (mB M_X7_get) 11 = .ok (.iload_n 2, 1) := by decide +kernel
theorem dX7_get_12 : decode (mB M_X7_get) 12 = .ok (.invokevirtual 137, 3) := by decide +kernel
theorem dX7_get_15 : decode (mB M_X7_get) 15 = .ok (.ifCond .ne 13, 3) := by decide +kernel
theorem dX7_get_18 : decode (mB M_X7_get) 18 = .ok (.new 140, 3) := by decide +kernel
theorem dX7_get_21 : decode (mB M_X7_get) 21 = .ok (.dup, 1) := by decide +kernel
theorem dX7_get_22 : decode (mB M_X7_get) 22 = .ok (.ldc 142, 2) := by decide +kernel
theorem dX7_get_24 : decode (mB M_X7_get) 24 = .ok (.invokespecial 144, 3) := by decide +kernel
theorem dX7_get_27 : decode (mB M_X7_get) 27 = .ok (.athrow, 1) := by decide +kernel
theorem dX7_get_28 : decode (mB M_X7_get) 28 = .ok (.aload_n 0, 1) := by decide +kernel
theorem dX7_get_29 : decode (mB M_X7_get) 29 = .ok (.getfield 24, 3) := by decide +kernel
theorem dX7_get_32 : decode (mB M_X7_get) 32 = .ok (.iload_n 1, 1) := by decide +kernel
theorem dX7_get_33 : decode (mB M_X7_get) 33 = .ok (.aload_n 0, 1) := by decide +kernel
theorem dX7_get_34 : decode (mB M_X7_get) 34 = .ok (.getfield 24, 3) := by decide +kernel
theorem dX7_get_37 : decode (mB M_X7_get) 37 = .ok (.iload_n 2, 1) := by decide +kernel
theorem dX7_get_38 : decode (mB M_X7_get) 38 = .ok (.invokevirtual 145, 3) := by decide +kernel
theorem dX7_get_41 : decode (mB M_X7_get) 41 = .ok (.invokevirtual 148, 3) := by decide +kernel
theorem dX7_get_44 : decode (mB M_X7_get) 44 = .ok (.istore_n 3, 1) := by decide +kernel
theorem dX7_get_45 : decode (mB M_X7_get) 45 = .ok (.iload_n 3, 1) := by decide +kernel
theorem dX7_get_46 : decode (mB M_X7_get) 46 = .ok (.ifCond .ne 7, 3) := by decide +kernel
theorem dX7_get_49 : decode (mB M_X7_get) 49 = .ok (.iconst (-1), 1) := by decide +kernel
theorem dX7_get_50 : decode (mB M_X7_get) 50 = .ok (.goto 4, 3) := by decide +kernel
theorem dX7_get_53 : decode (mB M_X7_get) 53 = .ok (.iload_n 3, 1) := by decide +kernel
theorem dX7_get_54 : decode (mB M_X7_get) 54 = .ok (.ireturn, 1) := by decide +kernel
def b_X7_get_18 (h : HP) : Option (Int32 ⊕ String) :=
  some (.inr "java/lang/IndexOutOfBoundsException")
def b_X7_get_0 (h : HP) (v0 : Nat) (v1 : Int32) (v2 : Int32) : Option (Int32 ⊕ String) :=
  (f_X7_isKey h v1).bind fun y1 => if y1 = 0 then b_X7_get_18 h  else (gR 7 1 h v0).bind fun x3 => (f_X3_isView h x3 v2).bind fun y4 => if y4 = 0 then b_X7_get_18 h  else (gR 7 1 h v0).bind fun x6 => (gR 7 1 h v0).bind fun x7 => (f_X3_limitOf h x7 v2).bind fun y8 => (f_X3_valueFor h x6 v1 y8).bind fun y9 => if y9 = 0 then some (.inl (-1)) else some (.inl y9)
def f_X7_get (h : HP) (v0 : Nat) (v1 : Int32) (v2 : Int32) : Option (Int32 ⊕ String) := (kO 7 h v0).bind fun _ => b_X7_get_0 h v0 v1 v2
theorem w_X7_get_18 {l : Launch} {X : SCR} {Q : PST} {bc bs : Nat} {res : Int32 ⊕ String} {h : HP} (hQ : ∀ sz', Q (outT res) h sz') (hno : ∀ E, res ≠ .inr E) {sz : Nat} (hf : b_X7_get_18 h  = some res) : SP l X M_X7_get 18 [] [] h sz bc bs Q := by
  rw [b_X7_get_18] at hf
  obtain rfl := Option.some.inj hf
  exact absurd rfl (hno _)

theorem w_X7_get_0 {l : Launch} {X : SCR} {Q : PST} {bc bs : Nat} {res : Int32 ⊕ String} {h : HP} (hQ : ∀ sz', Q (outT res) h sz') (hno : ∀ E, res ≠ .inr E) {v0 : Nat} {v1 : Int32} {v2 : Int32} {sz : Nat} (hf : b_X7_get_0 h v0 v1 v2  = some res) : SP l X M_X7_get 0 [(0, .ref v0), (1, .int v1), (2, .int v2)] [] h sz bc bs Q := by
  rw [b_X7_get_0] at hf
  refine sp_iload_n (pc := 0) dX7_get_0 1 rfl ?_
  obtain ⟨y1, ey1, hf⟩ := ob hf
  refine sp_callSi (pc := 1) (z := M_X7_isKey) (As := [.int v1]) (bc2 := bc) (bs2 := bs) (m_X7_isKey (Q := _) (fun sz => ⟨y1, rfl, ?_⟩) ey1) rfl dX7_get_1 rfl ck_X7_get_134 (Nat.le_of_ble_eq_true rfl) rfl rfl rfl
  refine sp_if_eq (pc := 4) (tgt := 18) dX7_get_4 (by decide) (fun c2 => ?_) (fun c2 => ?_)
  · rw [if_pos c2] at hf
    exact sp_sub [] rfl (w_X7_get_18 hQ hno hf)
  · rw [if_neg c2] at hf
    refine sp_aload_n (pc := 7) dX7_get_7 0 rfl ?_
    obtain ⟨x3, ex3, hf⟩ := ob hf
    refine sp_gR (pc := 8) fl_RX7_24 dX7_get_8 ex3 ?_
    refine sp_iload_n (pc := 11) dX7_get_11 2 rfl ?_
    obtain ⟨y4, ey4, hf⟩ := ob hf
    obtain ⟨fsy4, hoy4⟩ := o_X3_isView ey4
    refine sp_callVi (pc := 12) (z := M_X3_isView) (As := [.int v2]) (b := x3) (bc2 := bc) (bs2 := bs) (m_X3_isView (Q := _) (fun sz => ⟨y4, rfl, ?_⟩) ey4) rfl dX7_get_12 hoy4 rfl rfl ck_X7_get_137 (Nat.le_of_ble_eq_true rfl) rfl rfl rfl
    refine sp_if_ne (pc := 15) (tgt := 28) dX7_get_15 (by decide) (fun c5 => ?_) (fun c5 => ?_)
    · rw [if_neg c5] at hf
      refine sp_aload_n (pc := 28) dX7_get_28 0 rfl ?_
      obtain ⟨x6, ex6, hf⟩ := ob hf
      refine sp_gR (pc := 29) fl_RX7_24 dX7_get_29 ex6 ?_
      refine sp_iload_n (pc := 32) dX7_get_32 1 rfl ?_
      refine sp_aload_n (pc := 33) dX7_get_33 0 rfl ?_
      obtain ⟨x7, ex7, hf⟩ := ob hf
      refine sp_gR (pc := 34) fl_RX7_24 dX7_get_34 ex7 ?_
      refine sp_iload_n (pc := 37) dX7_get_37 2 rfl ?_
      obtain ⟨y8, ey8, hf⟩ := ob hf
      obtain ⟨fsy8, hoy8⟩ := o_X3_limitOf ey8
      refine sp_callVi (pc := 38) (z := M_X3_limitOf) (As := [.int v2]) (b := x7) (bc2 := bc) (bs2 := bs) (m_X3_limitOf (Q := _) (fun sz => ⟨y8, rfl, ?_⟩) ey8) rfl dX7_get_38 hoy8 rfl rfl ck_X7_get_145 (Nat.le_of_ble_eq_true rfl) rfl rfl rfl
      obtain ⟨y9, ey9, hf⟩ := ob hf
      obtain ⟨fsy9, hoy9⟩ := o_X3_valueFor ey9
      refine sp_callVi (pc := 41) (z := M_X3_valueFor) (As := [.int v1, .int y8]) (b := x6) (bc2 := bc) (bs2 := bs) (m_X3_valueFor (Q := _) (fun sz => ⟨y9, rfl, ?_⟩) ey9) rfl dX7_get_41 hoy9 rfl rfl ck_X7_get_148 (Nat.le_of_ble_eq_true rfl) rfl rfl rfl
      refine sp_istore_n (pc := 44) (lv' := [(3, .int y9), (0, .ref v0), (1, .int v1), (2, .int v2)]) dX7_get_44 (by decide) rfl ?_
      refine sp_iload_n (pc := 45) dX7_get_45 0 rfl ?_
      refine sp_if_ne (pc := 46) (tgt := 53) dX7_get_46 (by decide) (fun c10 => ?_) (fun c10 => ?_)
      · rw [if_neg c10] at hf
        refine sp_iload_n (pc := 53) dX7_get_53 0 rfl ?_
        obtain rfl := Option.some.inj hf
        exact sp_ireturn (pc := 54) dX7_get_54 rfl rfl (hQ _)
      · rw [if_pos c10] at hf
        refine sp_iconst (pc := 49) (v := (-1)) dX7_get_49 (by decide) ?_
        refine sp_goto (pc := 50) (tgt := 54) dX7_get_50 (by decide) ?_
        obtain rfl := Option.some.inj hf
        exact sp_ireturn (pc := 54) dX7_get_54 rfl rfl (hQ _)
    · rw [if_pos c5] at hf
      exact sp_sub [] rfl (w_X7_get_18 hQ hno hf)

theorem o_X7_get {h : HP} {v0 : Nat} {v1 : Int32} {v2 : Int32} {res : Int32 ⊕ String} (hf : f_X7_get h v0 v1 v2 = some res) : ∃ fs, h v0 = some (.inr (7, fs)) := by
  obtain ⟨u, eu, -⟩ := ob hf
  exact kO_spec eu

theorem m_X7_get {l : Launch} {Q : PST} {h : HP} {v0 : Nat} {v1 : Int32} {v2 : Int32} {sz : Nat} {res : Int32 ⊕ String} (hQ : ∀ sz', Q (outT res) h sz') (hno : ∀ E, res ≠ .inr E) (hf : f_X7_get h v0 v1 v2 = some res) : MM l M_X7_get [.ref v0, .int v1, .int v2] h sz Q := by
  obtain ⟨u, eu, hf⟩ := ob hf
  exact MM_of wok_X7_get (by decide +kernel) (Nat.le_of_ble_eq_true rfl) ((w_X7_get_0 hQ hno hf))

theorem dX7_run_0 : decode (mB M_X7_run) 0 = .ok (.aload_n 0, 1) := by decide +kernel
theorem dX7_run_1 : decode (mB M_X7_run) 1 = .ok (.getfield 24, 3) := by decide +kernel
theorem dX7_run_4 : decode (mB M_X7_run) 4 = .ok (.iload_n 1, 1) := by decide +kernel
theorem dX7_run_5 : decode (mB M_X7_run) 5 = .ok (.invokevirtual 151, 3) := by decide +kernel
theorem dX7_run_8 : decode (mB M_X7_run) 8 = .ok (.ifCond .ne 13, 3) := by decide +kernel
theorem dX7_run_11 : decode (mB M_X7_run) 11 = .ok (.new 140, 3) := by decide +kernel
theorem dX7_run_14 : decode (mB M_X7_run) 14 = .ok (.dup, 1) := by decide +kernel
theorem dX7_run_15 : decode (mB M_X7_run) 15 = .ok (.ldc 154, 2) := by decide +kernel
theorem dX7_run_17 : decode (mB M_X7_run) 17 = .ok (.invokespecial 144, 3) := by decide +kernel
theorem dX7_run_20 : decode (mB M_X7_run) 20 = .ok (.athrow, 1) := by decide +kernel
theorem dX7_run_21 : decode (mB M_X7_run) 21 = .ok (.iload_n 2, 1) := by decide +kernel
theorem dX7_run_22 : decode (mB M_X7_run) 22 = .ok (.tableswitch 170 0 4 #[34, 58, 91, 125, 161], 34) := by decide +kernel
theorem dX7_run_56 : decode (mB M_X7_run) 56 = .ok (.aload_n 0, 1) := by decide +kernel
theorem dX7_run_57 : decode (mB M_X7_run) 57 = .ok (.getfield 24, 3) := by decide +kernel
theorem dX7_run_60 : decode (mB M_X7_run) 60 = .ok (.aload_n 0, 1) := by decide +kernel
theorem dX7_run_61 : decode (mB M_X7_run) 61 = .ok (.getfield 24, 3) := by decide +kernel
theorem dX7_run_64 : decode (mB M_X7_run) 64 = .ok (.iload_n 1, 1) := by decide +kernel
theorem dX7_run_65 : decode (mB M_X7_run) 65 = .ok (.invokevirtual 156, 3) := by decide +kernel
theorem dX7_run_68 : decode (mB M_X7_run) 68 = .ok (.aload_n 0, 1) := by decide +kernel
theorem dX7_run_69 : decode (mB M_X7_run) 69 = .ok (.getfield 24, 3) := by decide +kernel
theorem dX7_run_72 : decode (mB M_X7_run) 72 = .ok (.iload_n 1, 1) := by decide +kernel
theorem dX7_run_73 : decode (mB M_X7_run) 73 = .ok (.invokevirtual 159, 3) := by decide +kernel
theorem dX7_run_76 : decode (mB M_X7_run) 76 = .ok (.invokevirtual 114, 3) := by decide +kernel
theorem dX7_run_79 : decode (mB M_X7_run) 79 = .ok (.ireturn, 1) := by decide +kernel
theorem dX7_run_80 : decode (mB M_X7_run) 80 = .ok (.aload_n 0, 1) := by decide +kernel
theorem dX7_run_81 : decode (mB M_X7_run) 81 = .ok (.getfield 24, 3) := by decide +kernel
theorem dX7_run_84 : decode (mB M_X7_run) 84 = .ok (.iload_n 1, 1) := by decide +kernel
theorem dX7_run_85 : decode (mB M_X7_run) 85 = .ok (.invokevirtual 101, 3) := by decide +kernel
theorem dX7_run_88 : decode (mB M_X7_run) 88 = .ok (.aload_n 0, 1) := by decide +kernel
theorem dX7_run_89 : decode (mB M_X7_run) 89 = .ok (.getfield 24, 3) := by decide +kernel
theorem dX7_run_92 : decode (mB M_X7_run) 92 = .ok (.aload_n 0, 1) := by decide +kernel
theorem dX7_run_93 : decode (mB M_X7_run) 93 = .ok (.getfield 24, 3) := by decide +kernel
theorem dX7_run_96 : decode (mB M_X7_run) 96 = .ok (.iload_n 1, 1) := by decide +kernel
theorem dX7_run_97 : decode (mB M_X7_run) 97 = .ok (.invokevirtual 156, 3) := by decide +kernel
theorem dX7_run_100 : decode (mB M_X7_run) 100 = .ok (.aload_n 0, 1) := by decide +kernel
theorem dX7_run_101 : decode (mB M_X7_run) 101 = .ok (.getfield 24, 3) := by decide +kernel
theorem dX7_run_104 : decode (mB M_X7_run) 104 = .ok (.iload_n 1, 1) := by decide +kernel
theorem dX7_run_105 : decode (mB M_X7_run) 105 = .ok (.invokevirtual 159, 3) := by decide +kernel
theorem dX7_run_108 : decode (mB M_X7_run) 108 = .ok (.invokevirtual 114, 3) := by decide +kernel
theorem dX7_run_111 : decode (mB M_X7_run) 111 = .ok (.isub, 1) := by decide +kernel
theorem dX7_run_112 : decode (mB M_X7_run) 112 = .ok (.ireturn, 1) := by decide +kernel
theorem dX7_run_113 : decode (mB M_X7_run) 113 = .ok (.aload_n 0, 1) := by decide +kernel
theorem dX7_run_114 : decode (mB M_X7_run) 114 = .ok (.getfield 24, 3) := by decide +kernel
theorem dX7_run_117 : decode (mB M_X7_run) 117 = .ok (.iload_n 1, 1) := by decide +kernel
theorem dX7_run_118 : decode (mB M_X7_run) 118 = .ok (.invokevirtual 101, 3) := by decide +kernel
theorem dX7_run_121 : decode (mB M_X7_run) 121 = .ok (.ifCond .ne 7, 3) := by decide +kernel
theorem dX7_run_124 : decode (mB M_X7_run) 124 = .ok (.iconst (-1), 1) := by decide +kernel
theorem dX7_run_125 : decode (mB M_X7_run) 125 = .ok (.goto 21, 3) := by decide +kernel
theorem dX7_run_128 : decode (mB M_X7_run) 128 = .ok (.aload_n 0, 1) := by decide +kernel
theorem dX7_run_129 : decode (mB M_X7_run) 129 = .ok (.getfield 24, 3) := by decide +kernel
theorem dX7_run_132 : decode (mB M_X7_run) 132 = .ok (.getfield 162, 3) := by decide +kernel
theorem dX7_run_135 : decode (mB M_X7_run) 135 = .ok (.aload_n 0, 1) := by decide +kernel
theorem dX7_run_136 : decode (mB M_X7_run) 136 = .ok (.getfield 24, 3) := by decide +kernel
theorem dX7_run_139 : decode (mB M_X7_run) 139 = .ok (.iload_n 1, 1) := by decide +kernel
theorem dX7_run_140 : decode (mB M_X7_run) 140 = .ok (.invokevirtual 156, 3) := by decide +kernel
theorem dX7_run_143 : decode (mB M_X7_run) 143 = .ok (.invokevirtual 166, 3) := by decide +kernel
theorem dX7_run_146 : decode (mB M_X7_run) 146 = .ok (.ireturn, 1) := by decide +kernel
theorem dX7_run_147 : decode (mB M_X7_run) 147 = .ok (.aload_n 0, 1) := by decide +kernel
theorem dX7_run_148 : decode (mB M_X7_run) 148 = .ok (.getfield 24, 3) := by decide +kernel
theorem dX7_run_151 : decode (mB M_X7_run) 151 = .ok (.iload_n 1, 1) := by decide +kernel
theorem dX7_run_152 : decode (mB M_X7_run) 152 = .ok (.invokevirtual 101, 3) := by decide +kernel
theorem dX7_run_155 : decode (mB M_X7_run) 155 = .ok (.ifCond .ne 7, 3) := by decide +kernel
theorem dX7_run_158 : decode (mB M_X7_run) 158 = .ok (.iconst (-1), 1) := by decide +kernel
theorem dX7_run_159 : decode (mB M_X7_run) 159 = .ok (.goto 23, 3) := by decide +kernel
theorem dX7_run_162 : decode (mB M_X7_run) 162 = .ok (.aload_n 0, 1) := by decide +kernel
theorem dX7_run_163 : decode (mB M_X7_run) 163 = .ok (.getfield 24, 3) := by decide +kernel
theorem dX7_run_166 : decode (mB M_X7_run) 166 = .ok (.getfield 162, 3) := by decide +kernel
theorem dX7_run_169 : decode (mB M_X7_run) 169 = .ok (.aload_n 0, 1) := by decide +kernel
theorem dX7_run_170 : decode (mB M_X7_run) 170 = .ok (.getfield 24, 3) := by decide +kernel
theorem dX7_run_173 : decode (mB M_X7_run) 173 = .ok (.iload_n 1, 1) := by decide +kernel
theorem dX7_run_174 : decode (mB M_X7_run) 174 = .ok (.invokevirtual 159, 3) := by decide +kernel
theorem dX7_run_177 : decode (mB M_X7_run) 177 = .ok (.iconst 1, 1) := by decide +kernel
theorem dX7_run_178 : decode (mB M_X7_run) 178 = .ok (.isub, 1) := by decide +kernel
theorem dX7_run_179 : decode (mB M_X7_run) 179 = .ok (.invokevirtual 166, 3) := by decide +kernel
theorem dX7_run_182 : decode (mB M_X7_run) 182 = .ok (.ireturn, 1) := by decide +kernel
theorem dX7_run_183 : decode (mB M_X7_run) 183 = .ok (.aload_n 0, 1) := by decide +kernel
theorem dX7_run_184 : decode (mB M_X7_run) 184 = .ok (.getfield 24, 3) := by decide +kernel
theorem dX7_run_187 : decode (mB M_X7_run) 187 = .ok (.iload_n 1, 1) := by decide +kernel
theorem dX7_run_188 : decode (mB M_X7_run) 188 = .ok (.invokevirtual 171, 3) := by decide +kernel
theorem dX7_run_191 : decode (mB M_X7_run) 191 = .ok (.ireturn, 1) := by decide +kernel
theorem dX7_run_192 : decode (mB M_X7_run) 192 = .ok (.new 55, 3) := by decide +kernel
theorem dX7_run_195 : decode (mB M_X7_run) 195 = .ok (.dup, 1) := by decide +kernel
theorem dX7_run_196 : decode (mB M_X7_run) 196 = .ok (.ldc 174, 2) := by decide +kernel
theorem dX7_run_198 : decode (mB M_X7_run) 198 = .ok (.invokespecial 59, 3) := by decide +kernel
theorem dX7_run_201 : decode (mB M_X7_run) 201 = .ok (.athrow, 1) := by decide +kernel
def b_X7_run_0 (h : HP) (v0 : Nat) (v1 : Int32) (v2 : Int32) : Option (Int32 ⊕ String) :=
  (gR 7 1 h v0).bind fun x1 => (f_X3_isPlace h x1 v1).bind fun y2 => if y2 = 0 then some (.inr "java/lang/IndexOutOfBoundsException") else if v2 = 0 then (gR 7 1 h v0).bind fun x5 => (gR 7 1 h v0).bind fun x6 => (f_X3_startOf h x6 v1).bind fun y7 => (gR 7 1 h v0).bind fun x8 => (f_X3_endOf h x8 v1).bind fun y9 => (f_X3_entriesIn h x5 y7 y9).bind fun y10 => some (.inl y10) else if v2 = 1 then (gR 7 1 h v0).bind fun x12 => (f_X3_sizeOf h x12 v1).bind fun y13 => (gR 7 1 h v0).bind fun x14 => (gR 7 1 h v0).bind fun x15 => (f_X3_startOf h x15 v1).bind fun y16 => (gR 7 1 h v0).bind fun x17 => (f_X3_endOf h x17 v1).bind fun y18 => (f_X3_entriesIn h x14 y16 y18).bind fun y19 => some (.inl (y13 - y19)) else if v2 = 2 then (gR 7 1 h v0).bind fun x21 => (f_X3_sizeOf h x21 v1).bind fun y22 => if y22 = 0 then some (.inl (-1)) else (gR 7 1 h v0).bind fun x24 => (gR 3 1 h x24).bind fun x25 => (gR 7 1 h v0).bind fun x26 => (f_X3_startOf h x26 v1).bind fun y27 => (f_X6_numberAt h x25 y27).bind fun y28 => some (.inl y28) else if v2 = 3 then (gR 7 1 h v0).bind fun x30 => (f_X3_sizeOf h x30 v1).bind fun y31 => if y31 = 0 then some (.inl (-1)) else (gR 7 1 h v0).bind fun x33 => (gR 3 1 h x33).bind fun x34 => (gR 7 1 h v0).bind fun x35 => (f_X3_endOf h x35 v1).bind fun y36 => (f_X6_numberAt h x34 (y36 - 1)).bind fun y37 => some (.inl y37) else if v2 = 4 then (gR 7 1 h v0).bind fun x39 => none else some (.inr "java/lang/IllegalArgumentException")
def f_X7_run (h : HP) (v0 : Nat) (v1 : Int32) (v2 : Int32) : Option (Int32 ⊕ String) := (kO 7 h v0).bind fun _ => b_X7_run_0 h v0 v1 v2
theorem w_X7_run_0 {l : Launch} {X : SCR} {Q : PST} {bc bs : Nat} {res : Int32 ⊕ String} {h : HP} (hQ : ∀ sz', Q (outT res) h sz') (hno : ∀ E, res ≠ .inr E) {v0 : Nat} {v1 : Int32} {v2 : Int32} {sz : Nat} (hf : b_X7_run_0 h v0 v1 v2  = some res) : SP l X M_X7_run 0 [(0, .ref v0), (1, .int v1), (2, .int v2)] [] h sz bc bs Q := by
  rw [b_X7_run_0] at hf
  refine sp_aload_n (pc := 0) dX7_run_0 0 rfl ?_
  obtain ⟨x1, ex1, hf⟩ := ob hf
  refine sp_gR (pc := 1) fl_RX7_24 dX7_run_1 ex1 ?_
  refine sp_iload_n (pc := 4) dX7_run_4 1 rfl ?_
  obtain ⟨y2, ey2, hf⟩ := ob hf
  obtain ⟨fsy2, hoy2⟩ := o_X3_isPlace ey2
  refine sp_callVi (pc := 5) (z := M_X3_isPlace) (As := [.int v1]) (b := x1) (bc2 := bc) (bs2 := bs) (m_X3_isPlace (Q := _) (fun sz => ⟨y2, rfl, ?_⟩) ey2) rfl dX7_run_5 hoy2 rfl rfl ck_X7_run_151 (Nat.le_of_ble_eq_true rfl) rfl rfl rfl
  refine sp_if_ne (pc := 8) (tgt := 21) dX7_run_8 (by decide) (fun c3 => ?_) (fun c3 => ?_)
  · rw [if_neg c3] at hf
    refine sp_iload_n (pc := 21) dX7_run_21 2 rfl ?_
    by_cases c4 : v2 = 0
    · rw [if_pos c4] at hf
      refine sp_tableIn (pc := 22) (off := 34) (tgt := 56) dX7_run_22 (by rw [c4]; decide) (by rw [c4]; decide) (by rw [c4]; rfl) (by decide) ?_
      refine sp_aload_n (pc := 56) dX7_run_56 0 rfl ?_
      obtain ⟨x5, ex5, hf⟩ := ob hf
      refine sp_gR (pc := 57) fl_RX7_24 dX7_run_57 ex5 ?_
      refine sp_aload_n (pc := 60) dX7_run_60 0 rfl ?_
      obtain ⟨x6, ex6, hf⟩ := ob hf
      refine sp_gR (pc := 61) fl_RX7_24 dX7_run_61 ex6 ?_
      refine sp_iload_n (pc := 64) dX7_run_64 1 rfl ?_
      obtain ⟨y7, ey7, hf⟩ := ob hf
      obtain ⟨fsy7, hoy7⟩ := o_X3_startOf ey7
      refine sp_callVi (pc := 65) (z := M_X3_startOf) (As := [.int v1]) (b := x6) (bc2 := bc) (bs2 := bs) (m_X3_startOf (Q := _) (fun sz => ⟨y7, rfl, ?_⟩) ey7) rfl dX7_run_65 hoy7 rfl rfl ck_X7_run_156 (Nat.le_of_ble_eq_true rfl) rfl rfl rfl
      refine sp_aload_n (pc := 68) dX7_run_68 0 rfl ?_
      obtain ⟨x8, ex8, hf⟩ := ob hf
      refine sp_gR (pc := 69) fl_RX7_24 dX7_run_69 ex8 ?_
      refine sp_iload_n (pc := 72) dX7_run_72 1 rfl ?_
      obtain ⟨y9, ey9, hf⟩ := ob hf
      obtain ⟨fsy9, hoy9⟩ := o_X3_endOf ey9
      refine sp_callVi (pc := 73) (z := M_X3_endOf) (As := [.int v1]) (b := x8) (bc2 := bc) (bs2 := bs) (m_X3_endOf (Q := _) (fun sz => ⟨y9, rfl, ?_⟩) ey9) rfl dX7_run_73 hoy9 rfl rfl ck_X7_run_159 (Nat.le_of_ble_eq_true rfl) rfl rfl rfl
      obtain ⟨y10, ey10, hf⟩ := ob hf
      obtain ⟨fsy10, hoy10⟩ := o_X3_entriesIn ey10
      refine sp_callVi (pc := 76) (z := M_X3_entriesIn) (As := [.int y7, .int y9]) (b := x5) (bc2 := bc) (bs2 := bs) (m_X3_entriesIn (Q := _) (fun sz => ⟨y10, rfl, ?_⟩) ey10) rfl dX7_run_76 hoy10 rfl rfl ck_X7_run_114 (Nat.le_of_ble_eq_true rfl) rfl rfl rfl
      obtain rfl := Option.some.inj hf
      exact sp_ireturn (pc := 79) dX7_run_79 rfl rfl (hQ _)
    rw [if_neg c4] at hf
    by_cases c11 : v2 = 1
    · rw [if_pos c11] at hf
      refine sp_tableIn (pc := 22) (off := 58) (tgt := 80) dX7_run_22 (by rw [c11]; decide) (by rw [c11]; decide) (by rw [c11]; rfl) (by decide) ?_
      refine sp_aload_n (pc := 80) dX7_run_80 0 rfl ?_
      obtain ⟨x12, ex12, hf⟩ := ob hf
      refine sp_gR (pc := 81) fl_RX7_24 dX7_run_81 ex12 ?_
      refine sp_iload_n (pc := 84) dX7_run_84 1 rfl ?_
      obtain ⟨y13, ey13, hf⟩ := ob hf
      obtain ⟨fsy13, hoy13⟩ := o_X3_sizeOf ey13
      refine sp_callVi (pc := 85) (z := M_X3_sizeOf) (As := [.int v1]) (b := x12) (bc2 := bc) (bs2 := bs) (m_X3_sizeOf (Q := _) (fun sz => ⟨y13, rfl, ?_⟩) ey13) rfl dX7_run_85 hoy13 rfl rfl ck_X7_run_101 (Nat.le_of_ble_eq_true rfl) rfl rfl rfl
      refine sp_aload_n (pc := 88) dX7_run_88 0 rfl ?_
      obtain ⟨x14, ex14, hf⟩ := ob hf
      refine sp_gR (pc := 89) fl_RX7_24 dX7_run_89 ex14 ?_
      refine sp_aload_n (pc := 92) dX7_run_92 0 rfl ?_
      obtain ⟨x15, ex15, hf⟩ := ob hf
      refine sp_gR (pc := 93) fl_RX7_24 dX7_run_93 ex15 ?_
      refine sp_iload_n (pc := 96) dX7_run_96 1 rfl ?_
      obtain ⟨y16, ey16, hf⟩ := ob hf
      obtain ⟨fsy16, hoy16⟩ := o_X3_startOf ey16
      refine sp_callVi (pc := 97) (z := M_X3_startOf) (As := [.int v1]) (b := x15) (bc2 := bc) (bs2 := bs) (m_X3_startOf (Q := _) (fun sz => ⟨y16, rfl, ?_⟩) ey16) rfl dX7_run_97 hoy16 rfl rfl ck_X7_run_156 (Nat.le_of_ble_eq_true rfl) rfl rfl rfl
      refine sp_aload_n (pc := 100) dX7_run_100 0 rfl ?_
      obtain ⟨x17, ex17, hf⟩ := ob hf
      refine sp_gR (pc := 101) fl_RX7_24 dX7_run_101 ex17 ?_
      refine sp_iload_n (pc := 104) dX7_run_104 1 rfl ?_
      obtain ⟨y18, ey18, hf⟩ := ob hf
      obtain ⟨fsy18, hoy18⟩ := o_X3_endOf ey18
      refine sp_callVi (pc := 105) (z := M_X3_endOf) (As := [.int v1]) (b := x17) (bc2 := bc) (bs2 := bs) (m_X3_endOf (Q := _) (fun sz => ⟨y18, rfl, ?_⟩) ey18) rfl dX7_run_105 hoy18 rfl rfl ck_X7_run_159 (Nat.le_of_ble_eq_true rfl) rfl rfl rfl
      obtain ⟨y19, ey19, hf⟩ := ob hf
      obtain ⟨fsy19, hoy19⟩ := o_X3_entriesIn ey19
      refine sp_callVi (pc := 108) (z := M_X3_entriesIn) (As := [.int y16, .int y18]) (b := x14) (bc2 := bc) (bs2 := bs) (m_X3_entriesIn (Q := _) (fun sz => ⟨y19, rfl, ?_⟩) ey19) rfl dX7_run_108 hoy19 rfl rfl ck_X7_run_114 (Nat.le_of_ble_eq_true rfl) rfl rfl rfl
      refine sp_isub (pc := 111) dX7_run_111 ?_
      obtain rfl := Option.some.inj hf
      exact sp_ireturn (pc := 112) dX7_run_112 rfl rfl (hQ _)
    rw [if_neg c11] at hf
    by_cases c20 : v2 = 2
    · rw [if_pos c20] at hf
      refine sp_tableIn (pc := 22) (off := 91) (tgt := 113) dX7_run_22 (by rw [c20]; decide) (by rw [c20]; decide) (by rw [c20]; rfl) (by decide) ?_
      refine sp_aload_n (pc := 113) dX7_run_113 0 rfl ?_
      obtain ⟨x21, ex21, hf⟩ := ob hf
      refine sp_gR (pc := 114) fl_RX7_24 dX7_run_114 ex21 ?_
      refine sp_iload_n (pc := 117) dX7_run_117 1 rfl ?_
      obtain ⟨y22, ey22, hf⟩ := ob hf
      obtain ⟨fsy22, hoy22⟩ := o_X3_sizeOf ey22
      refine sp_callVi (pc := 118) (z := M_X3_sizeOf) (As := [.int v1]) (b := x21) (bc2 := bc) (bs2 := bs) (m_X3_sizeOf (Q := _) (fun sz => ⟨y22, rfl, ?_⟩) ey22) rfl dX7_run_118 hoy22 rfl rfl ck_X7_run_101 (Nat.le_of_ble_eq_true rfl) rfl rfl rfl
      refine sp_if_ne (pc := 121) (tgt := 128) dX7_run_121 (by decide) (fun c23 => ?_) (fun c23 => ?_)
      · rw [if_neg c23] at hf
        refine sp_aload_n (pc := 128) dX7_run_128 0 rfl ?_
        obtain ⟨x24, ex24, hf⟩ := ob hf
        refine sp_gR (pc := 129) fl_RX7_24 dX7_run_129 ex24 ?_
        obtain ⟨x25, ex25, hf⟩ := ob hf
        refine sp_gR (pc := 132) fl_RX7_162 dX7_run_132 ex25 ?_
        refine sp_aload_n (pc := 135) dX7_run_135 0 rfl ?_
        obtain ⟨x26, ex26, hf⟩ := ob hf
        refine sp_gR (pc := 136) fl_RX7_24 dX7_run_136 ex26 ?_
        refine sp_iload_n (pc := 139) dX7_run_139 1 rfl ?_
        obtain ⟨y27, ey27, hf⟩ := ob hf
        obtain ⟨fsy27, hoy27⟩ := o_X3_startOf ey27
        refine sp_callVi (pc := 140) (z := M_X3_startOf) (As := [.int v1]) (b := x26) (bc2 := bc) (bs2 := bs) (m_X3_startOf (Q := _) (fun sz => ⟨y27, rfl, ?_⟩) ey27) rfl dX7_run_140 hoy27 rfl rfl ck_X7_run_156 (Nat.le_of_ble_eq_true rfl) rfl rfl rfl
        obtain ⟨y28, ey28, hf⟩ := ob hf
        obtain ⟨fsy28, hoy28⟩ := o_X6_numberAt ey28
        refine sp_callVi (pc := 143) (z := M_X6_numberAt) (As := [.int y27]) (b := x25) (bc2 := bc) (bs2 := bs) (m_X6_numberAt (Q := _) (fun sz => ⟨y28, rfl, ?_⟩) ey28) rfl dX7_run_143 hoy28 rfl rfl ck_X7_run_166 (Nat.le_of_ble_eq_true rfl) rfl rfl rfl
        obtain rfl := Option.some.inj hf
        exact sp_ireturn (pc := 146) dX7_run_146 rfl rfl (hQ _)
      · rw [if_pos c23] at hf
        refine sp_iconst (pc := 124) (v := (-1)) dX7_run_124 (by decide) ?_
        refine sp_goto (pc := 125) (tgt := 146) dX7_run_125 (by decide) ?_
        obtain rfl := Option.some.inj hf
        exact sp_ireturn (pc := 146) dX7_run_146 rfl rfl (hQ _)
    rw [if_neg c20] at hf
    by_cases c29 : v2 = 3
    · rw [if_pos c29] at hf
      refine sp_tableIn (pc := 22) (off := 125) (tgt := 147) dX7_run_22 (by rw [c29]; decide) (by rw [c29]; decide) (by rw [c29]; rfl) (by decide) ?_
      refine sp_aload_n (pc := 147) dX7_run_147 0 rfl ?_
      obtain ⟨x30, ex30, hf⟩ := ob hf
      refine sp_gR (pc := 148) fl_RX7_24 dX7_run_148 ex30 ?_
      refine sp_iload_n (pc := 151) dX7_run_151 1 rfl ?_
      obtain ⟨y31, ey31, hf⟩ := ob hf
      obtain ⟨fsy31, hoy31⟩ := o_X3_sizeOf ey31
      refine sp_callVi (pc := 152) (z := M_X3_sizeOf) (As := [.int v1]) (b := x30) (bc2 := bc) (bs2 := bs) (m_X3_sizeOf (Q := _) (fun sz => ⟨y31, rfl, ?_⟩) ey31) rfl dX7_run_152 hoy31 rfl rfl ck_X7_run_101 (Nat.le_of_ble_eq_true rfl) rfl rfl rfl
      refine sp_if_ne (pc := 155) (tgt := 162) dX7_run_155 (by decide) (fun c32 => ?_) (fun c32 => ?_)
      · rw [if_neg c32] at hf
        refine sp_aload_n (pc := 162) dX7_run_162 0 rfl ?_
        obtain ⟨x33, ex33, hf⟩ := ob hf
        refine sp_gR (pc := 163) fl_RX7_24 dX7_run_163 ex33 ?_
        obtain ⟨x34, ex34, hf⟩ := ob hf
        refine sp_gR (pc := 166) fl_RX7_162 dX7_run_166 ex34 ?_
        refine sp_aload_n (pc := 169) dX7_run_169 0 rfl ?_
        obtain ⟨x35, ex35, hf⟩ := ob hf
        refine sp_gR (pc := 170) fl_RX7_24 dX7_run_170 ex35 ?_
        refine sp_iload_n (pc := 173) dX7_run_173 1 rfl ?_
        obtain ⟨y36, ey36, hf⟩ := ob hf
        obtain ⟨fsy36, hoy36⟩ := o_X3_endOf ey36
        refine sp_callVi (pc := 174) (z := M_X3_endOf) (As := [.int v1]) (b := x35) (bc2 := bc) (bs2 := bs) (m_X3_endOf (Q := _) (fun sz => ⟨y36, rfl, ?_⟩) ey36) rfl dX7_run_174 hoy36 rfl rfl ck_X7_run_159 (Nat.le_of_ble_eq_true rfl) rfl rfl rfl
        refine sp_iconst (pc := 177) (v := 1) dX7_run_177 (by decide) ?_
        refine sp_isub (pc := 178) dX7_run_178 ?_
        obtain ⟨y37, ey37, hf⟩ := ob hf
        obtain ⟨fsy37, hoy37⟩ := o_X6_numberAt ey37
        refine sp_callVi (pc := 179) (z := M_X6_numberAt) (As := [.int (y36 - 1)]) (b := x34) (bc2 := bc) (bs2 := bs) (m_X6_numberAt (Q := _) (fun sz => ⟨y37, rfl, ?_⟩) ey37) rfl dX7_run_179 hoy37 rfl rfl ck_X7_run_166 (Nat.le_of_ble_eq_true rfl) rfl rfl rfl
        obtain rfl := Option.some.inj hf
        exact sp_ireturn (pc := 182) dX7_run_182 rfl rfl (hQ _)
      · rw [if_pos c32] at hf
        refine sp_iconst (pc := 158) (v := (-1)) dX7_run_158 (by decide) ?_
        refine sp_goto (pc := 159) (tgt := 182) dX7_run_159 (by decide) ?_
        obtain rfl := Option.some.inj hf
        exact sp_ireturn (pc := 182) dX7_run_182 rfl rfl (hQ _)
    rw [if_neg c29] at hf
    by_cases c38 : v2 = 4
    · rw [if_pos c38] at hf
      refine sp_tableIn (pc := 22) (off := 161) (tgt := 183) dX7_run_22 (by rw [c38]; decide) (by rw [c38]; decide) (by rw [c38]; rfl) (by decide) ?_
      refine sp_aload_n (pc := 183) dX7_run_183 0 rfl ?_
      obtain ⟨x39, ex39, hf⟩ := ob hf
      refine sp_gR (pc := 184) fl_RX7_24 dX7_run_184 ex39 ?_
      refine sp_iload_n (pc := 187) dX7_run_187 1 rfl ?_
      cases hf
    rw [if_neg c38] at hf
    refine sp_tableOut (pc := 22) (tgt := 192) dX7_run_22 (tbl_out (fun i h1 h2 he => ?_)) (by decide) ?_
    · rcases (show i = 0 ∨ i = 1 ∨ i = 2 ∨ i = 3 ∨ i = 4 by omega) with rfl | rfl | rfl | rfl | rfl
      · exact c4 (Int32.toInt_inj.mp (he.trans (by decide)))
      · exact c11 (Int32.toInt_inj.mp (he.trans (by decide)))
      · exact c20 (Int32.toInt_inj.mp (he.trans (by decide)))
      · exact c29 (Int32.toInt_inj.mp (he.trans (by decide)))
      · exact c38 (Int32.toInt_inj.mp (he.trans (by decide)))
    obtain rfl := Option.some.inj hf
    exact absurd rfl (hno _)
  · rw [if_pos c3] at hf
    obtain rfl := Option.some.inj hf
    exact absurd rfl (hno _)

theorem o_X7_run {h : HP} {v0 : Nat} {v1 : Int32} {v2 : Int32} {res : Int32 ⊕ String} (hf : f_X7_run h v0 v1 v2 = some res) : ∃ fs, h v0 = some (.inr (7, fs)) := by
  obtain ⟨u, eu, -⟩ := ob hf
  exact kO_spec eu

theorem m_X7_run {l : Launch} {Q : PST} {h : HP} {v0 : Nat} {v1 : Int32} {v2 : Int32} {sz : Nat} {res : Int32 ⊕ String} (hQ : ∀ sz', Q (outT res) h sz') (hno : ∀ E, res ≠ .inr E) (hf : f_X7_run h v0 v1 v2 = some res) : MM l M_X7_run [.ref v0, .int v1, .int v2] h sz Q := by
  obtain ⟨u, eu, hf⟩ := ob hf
  exact MM_of wok_X7_run (by decide +kernel) (Nat.le_of_ble_eq_true rfl) ((w_X7_run_0 hQ hno hf))

theorem dX7_write_0 : decode (mB M_X7_write) 0 = .ok (.aload_n 0, 1) := by decide +kernel
theorem dX7_write_1 : decode (mB M_X7_write) 1 = .ok (.getfield 24, 3) := by decide +kernel
theorem dX7_write_4 : decode (mB M_X7_write) 4 = .ok (.iload_n 1, 1) := by decide +kernel
theorem dX7_write_5 : decode (mB M_X7_write) 5 = .ok (.invokevirtual 151, 3) := by decide +kernel
theorem dX7_write_8 : decode (mB M_X7_write) 8 = .ok (.ifCond .ne 13, 3) := by decide +kernel
theorem dX7_write_11 : decode (mB M_X7_write) 11 = .ok (.new 140, 3) := by decide +kernel
theorem dX7_write_14 : decode (mB M_X7_write) 14 = .ok (.dup, 1) := by decide +kernel
theorem dX7_write_15 : decode (mB M_X7_write) 15 = .ok (.ldc 154, 2) := by decide +kernel
theorem dX7_write_17 : decode (mB M_X7_write) 17 = .ok (.invokespecial 144, 3) := by decide +kernel
theorem dX7_write_20 : decode (mB M_X7_write) 20 = .ok (.athrow, 1) := by decide +kernel
theorem dX7_write_21 : decode (mB M_X7_write) 21 = .ok (.iload_n 2, 1) := by decide +kernel
theorem dX7_write_22 : decode (mB M_X7_write) 22 = .ok (.ifCond .lt 12, 3) := by decide +kernel
theorem dX7_write_25 : decode (mB M_X7_write) 25 = .ok (.iload_n 3, 1) := by decide +kernel
theorem dX7_write_26 : decode (mB M_X7_write) 26 = .ok (.ifCond .lt 8, 3) := by decide +kernel
theorem dX7_write_29 : decode (mB M_X7_write) 29 = .ok (.iload_n 3, 1) := by decide +kernel
theorem dX7_write_30 : decode (mB M_X7_write) 30 = .ok (.iconst 3, 1) := by decide +kernel
theorem dX7_write_31 : decode (mB M_X7_write) 31 = .ok (.if_icmp .le 13, 3) := by decide +kernel
theorem dX7_write_34 : decode (mB M_X7_write) 34 = .ok (.new 55, 3) := by decide +kernel
theorem dX7_write_37 : decode (mB M_X7_write) 37 = .ok (.dup, 1) := by decide +kernel
theorem dX7_write_38 : decode (mB M_X7_write) 38 = .ok (.ldc 176, 2) := by decide +kernel
theorem dX7_write_40 : decode (mB M_X7_write) 40 = .ok (.invokespecial 59, 3) := by decide +kernel
theorem dX7_write_43 : decode (mB M_X7_write) 43 = .ok (.athrow, 1) := by decide +kernel
theorem dX7_write_44 : decode (mB M_X7_write) 44 = .ok (.iload_n 2, 1) := by decide +kernel
theorem dX7_write_45 : decode (mB M_X7_write) 45 = .ok (.aload_n 0, 1) := by decide +kernel
theorem dX7_write_46 : decode (mB M_X7_write) 46 = .ok (.getfield 24, 3) := by decide +kernel
theorem dX7_write_49 : decode (mB M_X7_write) 49 = .ok (.iload_n 1, 1) := by decide +kernel
theorem dX7_write_50 : decode (mB M_X7_write) 50 = .ok (.invokevirtual 101, 3) := by decide +kernel
theorem dX7_write_53 : decode (mB M_X7_write) 53 = .ok (.if_icmp .lt 5, 3) := by decide +kernel
theorem dX7_write_56 : decode (mB M_X7_write) 56 = .ok (.iconst (-1), 1) := by decide +kernel
theorem dX7_write_57 : decode (mB M_X7_write) 57 = .ok (.ireturn, 1) := by decide +kernel
theorem dX7_write_58 : decode (mB M_X7_write) 58 = .ok (.aload_n 0, 1) := by decide +kernel
theorem dX7_write_59 : decode (mB M_X7_write) 59 = .ok (.getfield 24, 3) := by decide +kernel
theorem dX7_write_62 : decode (mB M_X7_write) 62 = .ok (.iload_n 1, 1) := by decide +kernel
theorem dX7_write_63 : decode (mB M_X7_write) 63 = .ok (.invokevirtual 156, 3) := by decide +kernel
theorem dX7_write_66 : decode (mB M_X7_write) 66 = .ok (.iload_n 2, 1) := by decide +kernel
theorem dX7_write_67 : decode (mB M_X7_write) 67 = .ok (.iadd, 1) := by decide +kernel
theorem dX7_write_68 : decode (mB M_X7_write) 68 = .ok (.istore 4, 2) := by decide +kernel
theorem dX7_write_70 : decode (mB M_X7_write) 70 = .ok (.iload_n 3, 1) := by decide +kernel
theorem dX7_write_71 : decode (mB M_X7_write) 71 = .ok (.tableswitch 64 0 2 #[25, 38, 51], 25) := by decide +kernel
theorem dX7_write_96 : decode (mB M_X7_write) 96 = .ok (.aload_n 0, 1) := by decide +kernel
theorem dX7_write_97 : decode (mB M_X7_write) 97 = .ok (.getfield 24, 3) := by decide +kernel
theorem dX7_write_100 : decode (mB M_X7_write) 100 = .ok (.getfield 162, 3) := by decide +kernel
theorem dX7_write_103 : decode (mB M_X7_write) 103 = .ok (.iload 4, 2) := by decide +kernel
theorem dX7_write_105 : decode (mB M_X7_write) 105 = .ok (.invokevirtual 166, 3) := by decide +kernel
theorem dX7_write_108 : decode (mB M_X7_write) 108 = .ok (.ireturn, 1) := by decide +kernel
theorem dX7_write_109 : decode (mB M_X7_write) 109 = .ok (.aload_n 0, 1) := by decide +kernel
theorem dX7_write_110 : decode (mB M_X7_write) 110 = .ok (.getfield 24, 3) := by decide +kernel
theorem dX7_write_113 : decode (mB M_X7_write) 113 = .ok (.getfield 162, 3) := by decide +kernel
theorem dX7_write_116 : decode (mB M_X7_write) 116 = .ok (.iload 4, 2) := by decide +kernel
theorem dX7_write_118 : decode (mB M_X7_write) 118 = .ok (.invokevirtual 178, 3) := by decide +kernel
theorem dX7_write_121 : decode (mB M_X7_write) 121 = .ok (.ireturn, 1) := by decide +kernel
theorem dX7_write_122 : decode (mB M_X7_write) 122 = .ok (.aload_n 0, 1) := by decide +kernel
theorem dX7_write_123 : decode (mB M_X7_write) 123 = .ok (.getfield 24, 3) := by decide +kernel
theorem dX7_write_126 : decode (mB M_X7_write) 126 = .ok (.getfield 162, 3) := by decide +kernel
theorem dX7_write_129 : decode (mB M_X7_write) 129 = .ok (.iload 4, 2) := by decide +kernel
theorem dX7_write_131 : decode (mB M_X7_write) 131 = .ok (.invokevirtual 181, 3) := by decide +kernel
theorem dX7_write_134 : decode (mB M_X7_write) 134 = .ok (.ireturn, 1) := by decide +kernel
theorem dX7_write_135 : decode (mB M_X7_write) 135 = .ok (.aload_n 0, 1) := by decide +kernel
theorem dX7_write_136 : decode (mB M_X7_write) 136 = .ok (.getfield 24, 3) := by decide +kernel
theorem dX7_write_139 : decode (mB M_X7_write) 139 = .ok (.getfield 162, 3) := by decide +kernel
theorem dX7_write_142 : decode (mB M_X7_write) 142 = .ok (.iload 4, 2) := by decide +kernel
theorem dX7_write_144 : decode (mB M_X7_write) 144 = .ok (.invokevirtual 184, 3) := by decide +kernel
theorem dX7_write_147 : decode (mB M_X7_write) 147 = .ok (.ireturn, 1) := by decide +kernel
def b_X7_write_34 (h : HP) : Option (Int32 ⊕ String) :=
  some (.inr "java/lang/IllegalArgumentException")
def b_X7_write_0 (h : HP) (v0 : Nat) (v1 : Int32) (v2 : Int32) (v3 : Int32) : Option (Int32 ⊕ String) :=
  (gR 7 1 h v0).bind fun x1 => (f_X3_isPlace h x1 v1).bind fun y2 => if y2 = 0 then some (.inr "java/lang/IndexOutOfBoundsException") else if v2 < 0 then b_X7_write_34 h  else if v3 < 0 then b_X7_write_34 h  else if v3 ≤ 3 then (gR 7 1 h v0).bind fun x7 => (f_X3_sizeOf h x7 v1).bind fun y8 => if v2 < y8 then (gR 7 1 h v0).bind fun x10 => (f_X3_startOf h x10 v1).bind fun y11 => if v3 = 0 then (gR 7 1 h v0).bind fun x13 => (gR 3 1 h x13).bind fun x14 => (f_X6_numberAt h x14 (y11 + v2)).bind fun y15 => some (.inl y15) else if v3 = 1 then (gR 7 1 h v0).bind fun x17 => (gR 3 1 h x17).bind fun x18 => (f_X6_firstAt h x18 (y11 + v2)).bind fun y19 => some (.inl y19) else if v3 = 2 then (gR 7 1 h v0).bind fun x21 => (gR 3 1 h x21).bind fun x22 => (f_X6_lastAt h x22 (y11 + v2)).bind fun y23 => some (.inl y23) else (gR 7 1 h v0).bind fun x24 => (gR 3 1 h x24).bind fun x25 => (f_X6_valueAt h x25 (y11 + v2)).bind fun y26 => some (.inl y26) else some (.inl (-1)) else b_X7_write_34 h 
def f_X7_write (h : HP) (v0 : Nat) (v1 : Int32) (v2 : Int32) (v3 : Int32) : Option (Int32 ⊕ String) := (kO 7 h v0).bind fun _ => b_X7_write_0 h v0 v1 v2 v3
theorem w_X7_write_34 {l : Launch} {X : SCR} {Q : PST} {bc bs : Nat} {res : Int32 ⊕ String} {h : HP} (hQ : ∀ sz', Q (outT res) h sz') (hno : ∀ E, res ≠ .inr E) {sz : Nat} (hf : b_X7_write_34 h  = some res) : SP l X M_X7_write 34 [] [] h sz bc bs Q := by
  rw [b_X7_write_34] at hf
  obtain rfl := Option.some.inj hf
  exact absurd rfl (hno _)

theorem w_X7_write_0 {l : Launch} {X : SCR} {Q : PST} {bc bs : Nat} {res : Int32 ⊕ String} {h : HP} (hQ : ∀ sz', Q (outT res) h sz') (hno : ∀ E, res ≠ .inr E) {v0 : Nat} {v1 : Int32} {v2 : Int32} {v3 : Int32} {sz : Nat} (hf : b_X7_write_0 h v0 v1 v2 v3  = some res) : SP l X M_X7_write 0 [(0, .ref v0), (1, .int v1), (2, .int v2), (3, .int v3)] [] h sz bc bs Q := by
  rw [b_X7_write_0] at hf
  refine sp_aload_n (pc := 0) dX7_write_0 0 rfl ?_
  obtain ⟨x1, ex1, hf⟩ := ob hf
  refine sp_gR (pc := 1) fl_RX7_24 dX7_write_1 ex1 ?_
  refine sp_iload_n (pc := 4) dX7_write_4 1 rfl ?_
  obtain ⟨y2, ey2, hf⟩ := ob hf
  obtain ⟨fsy2, hoy2⟩ := o_X3_isPlace ey2
  refine sp_callVi (pc := 5) (z := M_X3_isPlace) (As := [.int v1]) (b := x1) (bc2 := bc) (bs2 := bs) (m_X3_isPlace (Q := _) (fun sz => ⟨y2, rfl, ?_⟩) ey2) rfl dX7_write_5 hoy2 rfl rfl ck_X7_write_151 (Nat.le_of_ble_eq_true rfl) rfl rfl rfl
  refine sp_if_ne (pc := 8) (tgt := 21) dX7_write_8 (by decide) (fun c3 => ?_) (fun c3 => ?_)
  · rw [if_neg c3] at hf
    refine sp_iload_n (pc := 21) dX7_write_21 2 rfl ?_
    refine sp_if_lt (pc := 22) (tgt := 34) dX7_write_22 (by decide) (fun c4 => ?_) (fun c4 => ?_)
    · rw [if_pos c4] at hf
      exact sp_sub [] rfl (w_X7_write_34 hQ hno hf)
    · rw [if_neg c4] at hf
      refine sp_iload_n (pc := 25) dX7_write_25 3 rfl ?_
      refine sp_if_lt (pc := 26) (tgt := 34) dX7_write_26 (by decide) (fun c5 => ?_) (fun c5 => ?_)
      · rw [if_pos c5] at hf
        exact sp_sub [] rfl (w_X7_write_34 hQ hno hf)
      · rw [if_neg c5] at hf
        refine sp_iload_n (pc := 29) dX7_write_29 3 rfl ?_
        refine sp_iconst (pc := 30) (v := 3) dX7_write_30 (by decide) ?_
        refine sp_icmp_le (pc := 31) (tgt := 44) dX7_write_31 (by decide) (fun c6 => ?_) (fun c6 => ?_)
        · rw [if_pos c6] at hf
          refine sp_iload_n (pc := 44) dX7_write_44 2 rfl ?_
          refine sp_aload_n (pc := 45) dX7_write_45 0 rfl ?_
          obtain ⟨x7, ex7, hf⟩ := ob hf
          refine sp_gR (pc := 46) fl_RX7_24 dX7_write_46 ex7 ?_
          refine sp_iload_n (pc := 49) dX7_write_49 1 rfl ?_
          obtain ⟨y8, ey8, hf⟩ := ob hf
          obtain ⟨fsy8, hoy8⟩ := o_X3_sizeOf ey8
          refine sp_callVi (pc := 50) (z := M_X3_sizeOf) (As := [.int v1]) (b := x7) (bc2 := bc) (bs2 := bs) (m_X3_sizeOf (Q := _) (fun sz => ⟨y8, rfl, ?_⟩) ey8) rfl dX7_write_50 hoy8 rfl rfl ck_X7_write_101 (Nat.le_of_ble_eq_true rfl) rfl rfl rfl
          refine sp_icmp_lt (pc := 53) (tgt := 58) dX7_write_53 (by decide) (fun c9 => ?_) (fun c9 => ?_)
          · rw [if_pos c9] at hf
            refine sp_aload_n (pc := 58) dX7_write_58 0 rfl ?_
            obtain ⟨x10, ex10, hf⟩ := ob hf
            refine sp_gR (pc := 59) fl_RX7_24 dX7_write_59 ex10 ?_
            refine sp_iload_n (pc := 62) dX7_write_62 1 rfl ?_
            obtain ⟨y11, ey11, hf⟩ := ob hf
            obtain ⟨fsy11, hoy11⟩ := o_X3_startOf ey11
            refine sp_callVi (pc := 63) (z := M_X3_startOf) (As := [.int v1]) (b := x10) (bc2 := bc) (bs2 := bs) (m_X3_startOf (Q := _) (fun sz => ⟨y11, rfl, ?_⟩) ey11) rfl dX7_write_63 hoy11 rfl rfl ck_X7_write_156 (Nat.le_of_ble_eq_true rfl) rfl rfl rfl
            refine sp_iload_n (pc := 66) dX7_write_66 2 rfl ?_
            refine sp_iadd (pc := 67) dX7_write_67 ?_
            refine sp_istore (pc := 68) (lv' := [(4, .int (y11 + v2)), (0, .ref v0), (1, .int v1), (2, .int v2), (3, .int v3)]) dX7_write_68 (by decide) rfl ?_
            refine sp_iload_n (pc := 70) dX7_write_70 4 rfl ?_
            by_cases c12 : v3 = 0
            · rw [if_pos c12] at hf
              refine sp_tableIn (pc := 71) (off := 25) (tgt := 96) dX7_write_71 (by rw [c12]; decide) (by rw [c12]; decide) (by rw [c12]; rfl) (by decide) ?_
              refine sp_aload_n (pc := 96) dX7_write_96 1 rfl ?_
              obtain ⟨x13, ex13, hf⟩ := ob hf
              refine sp_gR (pc := 97) fl_RX7_24 dX7_write_97 ex13 ?_
              obtain ⟨x14, ex14, hf⟩ := ob hf
              refine sp_gR (pc := 100) fl_RX7_162 dX7_write_100 ex14 ?_
              refine sp_iload (pc := 103) dX7_write_103 0 rfl ?_
              obtain ⟨y15, ey15, hf⟩ := ob hf
              obtain ⟨fsy15, hoy15⟩ := o_X6_numberAt ey15
              refine sp_callVi (pc := 105) (z := M_X6_numberAt) (As := [.int (y11 + v2)]) (b := x14) (bc2 := bc) (bs2 := bs) (m_X6_numberAt (Q := _) (fun sz => ⟨y15, rfl, ?_⟩) ey15) rfl dX7_write_105 hoy15 rfl rfl ck_X7_write_166 (Nat.le_of_ble_eq_true rfl) rfl rfl rfl
              obtain rfl := Option.some.inj hf
              exact sp_ireturn (pc := 108) dX7_write_108 rfl rfl (hQ _)
            rw [if_neg c12] at hf
            by_cases c16 : v3 = 1
            · rw [if_pos c16] at hf
              refine sp_tableIn (pc := 71) (off := 38) (tgt := 109) dX7_write_71 (by rw [c16]; decide) (by rw [c16]; decide) (by rw [c16]; rfl) (by decide) ?_
              refine sp_aload_n (pc := 109) dX7_write_109 1 rfl ?_
              obtain ⟨x17, ex17, hf⟩ := ob hf
              refine sp_gR (pc := 110) fl_RX7_24 dX7_write_110 ex17 ?_
              obtain ⟨x18, ex18, hf⟩ := ob hf
              refine sp_gR (pc := 113) fl_RX7_162 dX7_write_113 ex18 ?_
              refine sp_iload (pc := 116) dX7_write_116 0 rfl ?_
              obtain ⟨y19, ey19, hf⟩ := ob hf
              obtain ⟨fsy19, hoy19⟩ := o_X6_firstAt ey19
              refine sp_callVi (pc := 118) (z := M_X6_firstAt) (As := [.int (y11 + v2)]) (b := x18) (bc2 := bc) (bs2 := bs) (m_X6_firstAt (Q := _) (fun sz => ⟨y19, rfl, ?_⟩) ey19) rfl dX7_write_118 hoy19 rfl rfl ck_X7_write_178 (Nat.le_of_ble_eq_true rfl) rfl rfl rfl
              obtain rfl := Option.some.inj hf
              exact sp_ireturn (pc := 121) dX7_write_121 rfl rfl (hQ _)
            rw [if_neg c16] at hf
            by_cases c20 : v3 = 2
            · rw [if_pos c20] at hf
              refine sp_tableIn (pc := 71) (off := 51) (tgt := 122) dX7_write_71 (by rw [c20]; decide) (by rw [c20]; decide) (by rw [c20]; rfl) (by decide) ?_
              refine sp_aload_n (pc := 122) dX7_write_122 1 rfl ?_
              obtain ⟨x21, ex21, hf⟩ := ob hf
              refine sp_gR (pc := 123) fl_RX7_24 dX7_write_123 ex21 ?_
              obtain ⟨x22, ex22, hf⟩ := ob hf
              refine sp_gR (pc := 126) fl_RX7_162 dX7_write_126 ex22 ?_
              refine sp_iload (pc := 129) dX7_write_129 0 rfl ?_
              obtain ⟨y23, ey23, hf⟩ := ob hf
              obtain ⟨fsy23, hoy23⟩ := o_X6_lastAt ey23
              refine sp_callVi (pc := 131) (z := M_X6_lastAt) (As := [.int (y11 + v2)]) (b := x22) (bc2 := bc) (bs2 := bs) (m_X6_lastAt (Q := _) (fun sz => ⟨y23, rfl, ?_⟩) ey23) rfl dX7_write_131 hoy23 rfl rfl ck_X7_write_181 (Nat.le_of_ble_eq_true rfl) rfl rfl rfl
              obtain rfl := Option.some.inj hf
              exact sp_ireturn (pc := 134) dX7_write_134 rfl rfl (hQ _)
            rw [if_neg c20] at hf
            refine sp_tableOut (pc := 71) (tgt := 135) dX7_write_71 (tbl_out (fun i h1 h2 he => ?_)) (by decide) ?_
            · rcases (show i = 0 ∨ i = 1 ∨ i = 2 by omega) with rfl | rfl | rfl
              · exact c12 (Int32.toInt_inj.mp (he.trans (by decide)))
              · exact c16 (Int32.toInt_inj.mp (he.trans (by decide)))
              · exact c20 (Int32.toInt_inj.mp (he.trans (by decide)))
            refine sp_aload_n (pc := 135) dX7_write_135 1 rfl ?_
            obtain ⟨x24, ex24, hf⟩ := ob hf
            refine sp_gR (pc := 136) fl_RX7_24 dX7_write_136 ex24 ?_
            obtain ⟨x25, ex25, hf⟩ := ob hf
            refine sp_gR (pc := 139) fl_RX7_162 dX7_write_139 ex25 ?_
            refine sp_iload (pc := 142) dX7_write_142 0 rfl ?_
            obtain ⟨y26, ey26, hf⟩ := ob hf
            obtain ⟨fsy26, hoy26⟩ := o_X6_valueAt ey26
            refine sp_callVi (pc := 144) (z := M_X6_valueAt) (As := [.int (y11 + v2)]) (b := x25) (bc2 := bc) (bs2 := bs) (m_X6_valueAt (Q := _) (fun sz => ⟨y26, rfl, ?_⟩) ey26) rfl dX7_write_144 hoy26 rfl rfl ck_X7_write_184 (Nat.le_of_ble_eq_true rfl) rfl rfl rfl
            obtain rfl := Option.some.inj hf
            exact sp_ireturn (pc := 147) dX7_write_147 rfl rfl (hQ _)
          · rw [if_neg c9] at hf
            refine sp_iconst (pc := 56) (v := (-1)) dX7_write_56 (by decide) ?_
            obtain rfl := Option.some.inj hf
            exact sp_ireturn (pc := 57) dX7_write_57 rfl rfl (hQ _)
        · rw [if_neg c6] at hf
          exact sp_sub [] rfl (w_X7_write_34 hQ hno hf)
  · rw [if_pos c3] at hf
    obtain rfl := Option.some.inj hf
    exact absurd rfl (hno _)

theorem o_X7_write {h : HP} {v0 : Nat} {v1 : Int32} {v2 : Int32} {v3 : Int32} {res : Int32 ⊕ String} (hf : f_X7_write h v0 v1 v2 v3 = some res) : ∃ fs, h v0 = some (.inr (7, fs)) := by
  obtain ⟨u, eu, -⟩ := ob hf
  exact kO_spec eu

theorem m_X7_write {l : Launch} {Q : PST} {h : HP} {v0 : Nat} {v1 : Int32} {v2 : Int32} {v3 : Int32} {sz : Nat} {res : Int32 ⊕ String} (hQ : ∀ sz', Q (outT res) h sz') (hno : ∀ E, res ≠ .inr E) (hf : f_X7_write h v0 v1 v2 v3 = some res) : MM l M_X7_write [.ref v0, .int v1, .int v2, .int v3] h sz Q := by
  obtain ⟨u, eu, hf⟩ := ob hf
  exact MM_of wok_X7_write (by decide +kernel) (Nat.le_of_ble_eq_true rfl) ((w_X7_write_0 hQ hno hf))

theorem dX7_isValue_0 : decode (mB M_X7_isValue) 0 = .ok (.iload_n 0, 1) := by decide +kernel
theorem dX7_isValue_1 : decode (mB M_X7_isValue) 1 = .ok (.iconst 1, 1) := by decide +kernel
theorem dX7_isValue_2 : decode (mB M_X7_isValue) 2 = .ok (.if_icmp .lt 14, 3) := by decide +kernel
theorem dX7_isValue_5 : decode (mB M_X7_isValue) 5 = .ok (.iload_n 0, 1) := by decide +kernel
theorem dX7_isValue_6 : decode (mB M_X7_isValue) 6 = .ok (.sipush 999, 3) := by decide +kernel
theorem dX7_isValue_9 : decode (mB M_X7_isValue) 9 = .ok (.if_icmp .gt 7, 3) := by decide +kernel
theorem dX7_isValue_12 : decode (mB M_X7_isValue) 12 = .ok (.iconst 1, 1) := by decide +kernel
theorem dX7_isValue_13 : decode (mB M_X7_isValue) 13 = .ok (.goto 4, 3) := by decide +kernel
theorem dX7_isValue_16 : decode (mB M_X7_isValue) 16 = .ok (.iconst 0, 1) := by decide +kernel
theorem dX7_isValue_17 : decode (mB M_X7_isValue) 17 = .ok (.ireturn, 1) := by decide +kernel
def b_X7_isValue_0 (h : HP) (v0 : Int32) : Option (Int32) :=
  if v0 < 1 then some (0) else if 999 < v0 then some (0) else some (1)
def f_X7_isValue (h : HP) (v0 : Int32) : Option (Int32) := b_X7_isValue_0 h v0
theorem w_X7_isValue_0 {l : Launch} {X : SCR} {Q : PST} {bc bs : Nat} {res : Int32} {h : HP} (hQ : ∀ sz', Q (.inl (some (.int res))) h sz') {v0 : Int32} {sz : Nat} (hf : b_X7_isValue_0 h v0  = some res) : SP l X M_X7_isValue 0 [(0, .int v0)] [] h sz bc bs Q := by
  rw [b_X7_isValue_0] at hf
  refine sp_iload_n (pc := 0) dX7_isValue_0 0 rfl ?_
  refine sp_iconst (pc := 1) (v := 1) dX7_isValue_1 (by decide) ?_
  refine sp_icmp_lt (pc := 2) (tgt := 16) dX7_isValue_2 (by decide) (fun c1 => ?_) (fun c1 => ?_)
  · rw [if_pos c1] at hf
    refine sp_iconst (pc := 16) (v := 0) dX7_isValue_16 (by decide) ?_
    obtain rfl := Option.some.inj hf
    exact sp_ireturn (pc := 17) dX7_isValue_17 rfl rfl (hQ _)
  · rw [if_neg c1] at hf
    refine sp_iload_n (pc := 5) dX7_isValue_5 0 rfl ?_
    refine sp_sipush (pc := 6) (v := 999) dX7_isValue_6 (by decide) ?_
    refine sp_icmp_gt (pc := 9) (tgt := 16) dX7_isValue_9 (by decide) (fun c2 => ?_) (fun c2 => ?_)
    · rw [if_pos c2] at hf
      refine sp_iconst (pc := 16) (v := 0) dX7_isValue_16 (by decide) ?_
      obtain rfl := Option.some.inj hf
      exact sp_ireturn (pc := 17) dX7_isValue_17 rfl rfl (hQ _)
    · rw [if_neg c2] at hf
      refine sp_iconst (pc := 12) (v := 1) dX7_isValue_12 (by decide) ?_
      refine sp_goto (pc := 13) (tgt := 17) dX7_isValue_13 (by decide) ?_
      obtain rfl := Option.some.inj hf
      exact sp_ireturn (pc := 17) dX7_isValue_17 rfl rfl (hQ _)

theorem m_X7_isValue {l : Launch} {Q : PST} {h : HP} {v0 : Int32} {sz : Nat} {res : Int32} (hQ : ∀ sz', Q (.inl (some (.int res))) h sz') (hf : f_X7_isValue h v0 = some res) : MM l M_X7_isValue [.int v0] h sz Q := by
  rw [f_X7_isValue] at hf
  exact MM_of wok_X7_isValue (by decide +kernel) (Nat.le_of_ble_eq_true rfl) ((w_X7_isValue_0 hQ hf))

theorem dX7_put_0 : decode (mB M_X7_put) 0 = .ok (.iload_n 1, 1) := by decide +kernel
theorem dX7_put_1 : decode (mB M_X7_put) 1 = .ok (.invokestatic 134, 3) := by decide +kernel
theorem dX7_put_4 : decode (mB M_X7_put) 4 = .ok (.ifCond .ne 13, 3) := by decide +kernel
theorem dX7_put_7 : decode (mB M_X7_put) 7 = .ok (.new 140, 3) := by decide +kernel
theorem dX7_put_10 : decode (mB M_X7_put) 10 = .ok (.dup, 1) := by decide +kernel
theorem dX7_put_11 : decode (mB M_X7_put) 11 = .ok (.ldc 192, 2) := by decide +kernel
theorem dX7_put_13 : decode (mB M_X7_put) 13 = .ok (.invokespecial 144, 3) := by decide +kernel
theorem dX7_put_16 : decode (mB M_X7_put) 16 = .ok (.athrow, 1) := by decide +kernel
theorem dX7_put_17 : decode (mB M_X7_put) 17 = .ok (.iload_n 2, 1) := by decide +kernel
theorem dX7_put_18 : decode (mB M_X7_put) 18 = .ok (.invokestatic 194, 3) := by decide +kernel
theorem dX7_put_21 : decode (mB M_X7_put) 21 = .ok (.ifCond .ne 13, 3) := by decide +kernel
theorem dX7_put_24 : decode (mB M_X7_put) 24 = .ok (.new 55, 3) := by decide +kernel
theorem dX7_put_27 : decode (mB M_X7_put) 27 = .ok (.dup, 1) := by decide +kernel
theorem dX7_put_28 : decode (mB M_X7_put) 28 = .ok (.ldc 197, 2) := by decide +kernel
theorem dX7_put_30 : decode (mB M_X7_put) 30 = .ok (.invokespecial 59, 3) := by decide +kernel
theorem dX7_put_33 : decode (mB M_X7_put) 33 = .ok (.athrow, 1) := by decide +kernel
theorem dX7_put_34 : decode (mB M_X7_put) 34 = .ok (.aload_n 0, 1) := by decide +kernel
theorem dX7_put_35 : decode (mB M_X7_put) 35 = .ok (.getfield 24, 3) := by decide +kernel
theorem dX7_put_38 : decode (mB M_X7_put) 38 = .ok (.invokevirtual 199, 3) := by decide +kernel
theorem dX7_put_41 : decode (mB M_X7_put) 41 = .ok (.ifCond .eq 13, 3) := by decide +kernel
theorem dX7_put_44 : decode (mB M_X7_put) 44 = .ok (.new 66, 3) := by decide +kernel
theorem dX7_put_47 : decode (mB M_X7_put) 47 = .ok (.dup, 1) := by decide +kernel
theorem dX7_put_48 : decode (mB M_X7_put) 48 = .ok (.ldc 200, 2) := by decide +kernel
theorem dX7_put_50 : decode (mB M_X7_put) 50 = .ok (.invokespecial 70, 3) := by decide +kernel
theorem dX7_put_53 : decode (mB M_X7_put) 53 = .ok (.athrow, 1) := by decide +kernel
theorem dX7_put_54 : decode (mB M_X7_put) 54 = .ok (.aload_n 0, 1) := by decide +kernel
theorem dX7_put_55 : decode (mB M_X7_put) 55 = .ok (.getfield 36, 3) := by decide +kernel
theorem dX7_put_58 : decode (mB M_X7_put) 58 = .ok (.aload_n 0, 1) := by decide +kernel
theorem dX7_put_59 : decode (mB M_X7_put) 59 = .ok (.getfield 24, 3) := by decide +kernel
theorem dX7_put_62 : decode (mB M_X7_put) 62 = .ok (.invokevirtual 202, 3) := by decide +kernel
theorem dX7_put_65 : decode (mB M_X7_put) 65 = .ok (.aload_n 0, 1) := by decide +kernel
theorem dX7_put_66 : decode (mB M_X7_put) 66 = .ok (.getfield 24, 3) := by decide +kernel
theorem dX7_put_69 : decode (mB M_X7_put) 69 = .ok (.iload_n 1, 1) := by decide +kernel
theorem dX7_put_70 : decode (mB M_X7_put) 70 = .ok (.iload_n 1, 1) := by decide +kernel
theorem dX7_put_71 : decode (mB M_X7_put) 71 = .ok (.iload_n 2, 1) := by decide +kernel
theorem dX7_put_72 : decode (mB M_X7_put) 72 = .ok (.invokevirtual 206, 3) := by decide +kernel
theorem dX7_put_75 : decode (mB M_X7_put) 75 = .ok (.aload_n 0, 1) := by decide +kernel
theorem dX7_put_76 : decode (mB M_X7_put) 76 = .ok (.getfield 24, 3) := by decide +kernel
theorem dX7_put_79 : decode (mB M_X7_put) 79 = .ok (.invokevirtual 98, 3) := by decide +kernel
theorem dX7_put_82 : decode (mB M_X7_put) 82 = .ok (.ireturn, 1) := by decide +kernel
def b_X7_put_0 (v0 : Nat) (v1 : Int32) (v2 : Int32) (h : HP) : Option ((Int32 ⊕ String) × HP) :=
  (f_X7_isKey h v1).bind fun y1 => if y1 = 0 then some (.inr "java/lang/IndexOutOfBoundsException", h) else (f_X7_isValue h v2).bind fun y3 => if y3 = 0 then some (.inr "java/lang/IllegalArgumentException", h) else (gR 7 1 h v0).bind fun x5 => (f_X3_isFull h x5).bind fun y6 => if y6 = 0 then (gR 7 3 h v0).bind fun x8 => (gR 7 1 h v0).bind fun x9 => (f_X1_remember h x8 x9).bind fun y10 => (gR 7 1 y10 v0).bind fun x11 => (f_X3_addWrite y10 x11 v1 v1 v2).bind fun y12 => (gR 7 1 y12 v0).bind fun x13 => (f_X3_latest y12 x13).bind fun y14 => some (.inl y14, y12) else some (.inr "java/lang/IllegalStateException", h)
def f_X7_put (h : HP) (v0 : Nat) (v1 : Int32) (v2 : Int32) : Option ((Int32 ⊕ String) × HP) := (kO 7 h v0).bind fun _ => b_X7_put_0 v0 v1 v2 h
theorem w_X7_put_0 {l : Launch} {X : SCR} {Q : PST} {bc bs : Nat} {res : (Int32 ⊕ String) × HP} {h : HP} (hQ : ∀ sz', Q (outT res.1) res.2 sz') (hno : ∀ E, res.1 ≠ .inr E) {v0 : Nat} {v1 : Int32} {v2 : Int32} {sz : Nat} (hf : b_X7_put_0 v0 v1 v2 h  = some res) : SP l X M_X7_put 0 [(0, .ref v0), (1, .int v1), (2, .int v2)] [] h sz bc bs Q := by
  rw [b_X7_put_0] at hf
  refine sp_iload_n (pc := 0) dX7_put_0 1 rfl ?_
  obtain ⟨y1, ey1, hf⟩ := ob hf
  refine sp_callSi (pc := 1) (z := M_X7_isKey) (As := [.int v1]) (bc2 := bc) (bs2 := bs) (m_X7_isKey (Q := _) (fun sz => ⟨y1, rfl, ?_⟩) ey1) rfl dX7_put_1 rfl ck_X7_put_134 (Nat.le_of_ble_eq_true rfl) rfl rfl rfl
  refine sp_if_ne (pc := 4) (tgt := 17) dX7_put_4 (by decide) (fun c2 => ?_) (fun c2 => ?_)
  · rw [if_neg c2] at hf
    refine sp_iload_n (pc := 17) dX7_put_17 2 rfl ?_
    obtain ⟨y3, ey3, hf⟩ := ob hf
    refine sp_callSi (pc := 18) (z := M_X7_isValue) (As := [.int v2]) (bc2 := bc) (bs2 := bs) (m_X7_isValue (Q := _) (fun sz => ⟨y3, rfl, ?_⟩) ey3) rfl dX7_put_18 rfl ck_X7_put_194 (Nat.le_of_ble_eq_true rfl) rfl rfl rfl
    refine sp_if_ne (pc := 21) (tgt := 34) dX7_put_21 (by decide) (fun c4 => ?_) (fun c4 => ?_)
    · rw [if_neg c4] at hf
      refine sp_aload_n (pc := 34) dX7_put_34 0 rfl ?_
      obtain ⟨x5, ex5, hf⟩ := ob hf
      refine sp_gR (pc := 35) fl_RX7_24 dX7_put_35 ex5 ?_
      obtain ⟨y6, ey6, hf⟩ := ob hf
      obtain ⟨fsy6, hoy6⟩ := o_X3_isFull ey6
      refine sp_callVi (pc := 38) (z := M_X3_isFull) (As := []) (b := x5) (bc2 := bc) (bs2 := bs) (m_X3_isFull (Q := _) (fun sz => ⟨y6, rfl, ?_⟩) ey6) rfl dX7_put_38 hoy6 rfl rfl ck_X7_put_199 (Nat.le_of_ble_eq_true rfl) rfl rfl rfl
      refine sp_if_eq (pc := 41) (tgt := 54) dX7_put_41 (by decide) (fun c7 => ?_) (fun c7 => ?_)
      · rw [if_pos c7] at hf
        refine sp_aload_n (pc := 54) dX7_put_54 0 rfl ?_
        obtain ⟨x8, ex8, hf⟩ := ob hf
        refine sp_gR (pc := 55) fl_RX7_36 dX7_put_55 ex8 ?_
        refine sp_aload_n (pc := 58) dX7_put_58 0 rfl ?_
        obtain ⟨x9, ex9, hf⟩ := ob hf
        refine sp_gR (pc := 59) fl_RX7_24 dX7_put_59 ex9 ?_
        obtain ⟨y10, ey10, hf⟩ := ob hf
        obtain ⟨fsy10, hoy10⟩ := o_X1_remember ey10
        refine sp_callVv (pc := 62) (z := M_X1_remember) (As := [.ref x9]) (b := x8) (bc2 := bc) (bs2 := bs) (m_X1_remember (Q := _) (fun sz => ⟨(), rfl, ?_⟩) ey10) rfl dX7_put_62 hoy10 rfl rfl ck_X7_put_202 (Nat.le_of_ble_eq_true rfl) rfl rfl rfl
        refine sp_aload_n (pc := 65) dX7_put_65 0 rfl ?_
        obtain ⟨x11, ex11, hf⟩ := ob hf
        refine sp_gR (pc := 66) fl_RX7_24 dX7_put_66 ex11 ?_
        refine sp_iload_n (pc := 69) dX7_put_69 1 rfl ?_
        refine sp_iload_n (pc := 70) dX7_put_70 1 rfl ?_
        refine sp_iload_n (pc := 71) dX7_put_71 2 rfl ?_
        obtain ⟨y12, ey12, hf⟩ := ob hf
        obtain ⟨fsy12, hoy12⟩ := o_X3_addWrite ey12
        refine sp_callVv (pc := 72) (z := M_X3_addWrite) (As := [.int v1, .int v1, .int v2]) (b := x11) (bc2 := bc) (bs2 := bs) (m_X3_addWrite (Q := _) (fun sz => ⟨(), rfl, ?_⟩) ey12) rfl dX7_put_72 hoy12 rfl rfl ck_X7_put_206 (Nat.le_of_ble_eq_true rfl) rfl rfl rfl
        refine sp_aload_n (pc := 75) dX7_put_75 0 rfl ?_
        obtain ⟨x13, ex13, hf⟩ := ob hf
        refine sp_gR (pc := 76) fl_RX7_24 dX7_put_76 ex13 ?_
        obtain ⟨y14, ey14, hf⟩ := ob hf
        obtain ⟨fsy14, hoy14⟩ := o_X3_latest ey14
        refine sp_callVi (pc := 79) (z := M_X3_latest) (As := []) (b := x13) (bc2 := bc) (bs2 := bs) (m_X3_latest (Q := _) (fun sz => ⟨y14, rfl, ?_⟩) ey14) rfl dX7_put_79 hoy14 rfl rfl ck_X7_put_98 (Nat.le_of_ble_eq_true rfl) rfl rfl rfl
        obtain rfl := Option.some.inj hf
        exact sp_ireturn (pc := 82) dX7_put_82 rfl rfl (hQ _)
      · rw [if_neg c7] at hf
        obtain rfl := Option.some.inj hf
        exact absurd rfl (hno _)
    · rw [if_pos c4] at hf
      obtain rfl := Option.some.inj hf
      exact absurd rfl (hno _)
  · rw [if_pos c2] at hf
    obtain rfl := Option.some.inj hf
    exact absurd rfl (hno _)

theorem o_X7_put {h : HP} {v0 : Nat} {v1 : Int32} {v2 : Int32} {res : (Int32 ⊕ String) × HP} (hf : f_X7_put h v0 v1 v2 = some res) : ∃ fs, h v0 = some (.inr (7, fs)) := by
  obtain ⟨u, eu, -⟩ := ob hf
  exact kO_spec eu

theorem m_X7_put {l : Launch} {Q : PST} {h : HP} {v0 : Nat} {v1 : Int32} {v2 : Int32} {sz : Nat} {res : (Int32 ⊕ String) × HP} (hQ : ∀ sz', Q (outT res.1) res.2 sz') (hno : ∀ E, res.1 ≠ .inr E) (hf : f_X7_put h v0 v1 v2 = some res) : MM l M_X7_put [.ref v0, .int v1, .int v2] h sz Q := by
  obtain ⟨u, eu, hf⟩ := ob hf
  exact MM_of wok_X7_put (by decide +kernel) (Nat.le_of_ble_eq_true rfl) ((w_X7_put_0 hQ hno hf))

theorem dX7_bury_0 : decode (mB M_X7_bury) 0 = .ok (.iload_n 1, 1) := by decide +kernel
theorem dX7_bury_1 : decode (mB M_X7_bury) 1 = .ok (.invokestatic 134, 3) := by decide +kernel
theorem dX7_bury_4 : decode (mB M_X7_bury) 4 = .ok (.ifCond .eq 10, 3) := by decide +kernel
theorem dX7_bury_7 : decode (mB M_X7_bury) 7 = .ok (.iload_n 2, 1) := by decide +kernel
theorem dX7_bury_8 : decode (mB M_X7_bury) 8 = .ok (.invokestatic 134, 3) := by decide +kernel
theorem dX7_bury_11 : decode (mB M_X7_bury) 11 = .ok (.ifCond .ne 13, 3) := by decide +kernel
theorem dX7_bury_14 : decode (mB M_X7_bury) 14 = .ok (.new 140, 3) := by decide +kernel
theorem dX7_bury_17 : decode (mB M_X7_bury) 17 = .ok (.dup, 1) := by decide +kernel
theorem dX7_bury_18 : decode (mB M_X7_bury) 18 = .ok (.ldc 192, 2) := by decide +kernel
theorem dX7_bury_20 : decode (mB M_X7_bury) 20 = .ok (.invokespecial 144, 3) := by decide +kernel
theorem dX7_bury_23 : decode (mB M_X7_bury) 23 = .ok (.athrow, 1) := by decide +kernel
theorem dX7_bury_24 : decode (mB M_X7_bury) 24 = .ok (.iload_n 2, 1) := by decide +kernel
theorem dX7_bury_25 : decode (mB M_X7_bury) 25 = .ok (.iload_n 1, 1) := by decide +kernel
theorem dX7_bury_26 : decode (mB M_X7_bury) 26 = .ok (.if_icmp .ge 13, 3) := by decide +kernel
theorem dX7_bury_29 : decode (mB M_X7_bury) 29 = .ok (.new 55, 3) := by decide +kernel
theorem dX7_bury_32 : decode (mB M_X7_bury) 32 = .ok (.dup, 1) := by decide +kernel
theorem dX7_bury_33 : decode (mB M_X7_bury) 33 = .ok (.ldc 210, 2) := by decide +kernel
theorem dX7_bury_35 : decode (mB M_X7_bury) 35 = .ok (.invokespecial 59, 3) := by decide +kernel
theorem dX7_bury_38 : decode (mB M_X7_bury) 38 = .ok (.athrow, 1) := by decide +kernel
theorem dX7_bury_39 : decode (mB M_X7_bury) 39 = .ok (.aload_n 0, 1) := by decide +kernel
theorem dX7_bury_40 : decode (mB M_X7_bury) 40 = .ok (.getfield 24, 3) := by decide +kernel
theorem dX7_bury_43 : decode (mB M_X7_bury) 43 = .ok (.invokevirtual 199, 3) := by decide +kernel
theorem dX7_bury_46 : decode (mB M_X7_bury) 46 = .ok (.ifCond .eq 13, 3) := by decide +kernel
theorem dX7_bury_49 : decode (mB M_X7_bury) 49 = .ok (.new 66, 3) := by decide +kernel
theorem dX7_bury_52 : decode (mB M_X7_bury) 52 = .ok (.dup, 1) := by decide +kernel
theorem dX7_bury_53 : decode (mB M_X7_bury) 53 = .ok (.ldc 200, 2) := by decide +kernel
theorem dX7_bury_55 : decode (mB M_X7_bury) 55 = .ok (.invokespecial 70, 3) := by decide +kernel
theorem dX7_bury_58 : decode (mB M_X7_bury) 58 = .ok (.athrow, 1) := by decide +kernel
theorem dX7_bury_59 : decode (mB M_X7_bury) 59 = .ok (.aload_n 0, 1) := by decide +kernel
theorem dX7_bury_60 : decode (mB M_X7_bury) 60 = .ok (.getfield 36, 3) := by decide +kernel
theorem dX7_bury_63 : decode (mB M_X7_bury) 63 = .ok (.aload_n 0, 1) := by decide +kernel
theorem dX7_bury_64 : decode (mB M_X7_bury) 64 = .ok (.getfield 24, 3) := by decide +kernel
theorem dX7_bury_67 : decode (mB M_X7_bury) 67 = .ok (.invokevirtual 202, 3) := by decide +kernel
theorem dX7_bury_70 : decode (mB M_X7_bury) 70 = .ok (.aload_n 0, 1) := by decide +kernel
theorem dX7_bury_71 : decode (mB M_X7_bury) 71 = .ok (.getfield 51, 3) := by decide +kernel
theorem dX7_bury_74 : decode (mB M_X7_bury) 74 = .ok (.aload_n 0, 1) := by decide +kernel
theorem dX7_bury_75 : decode (mB M_X7_bury) 75 = .ok (.getfield 24, 3) := by decide +kernel
theorem dX7_bury_78 : decode (mB M_X7_bury) 78 = .ok (.aload_n 0, 1) := by decide +kernel
theorem dX7_bury_79 : decode (mB M_X7_bury) 79 = .ok (.getfield 24, 3) := by decide +kernel
theorem dX7_bury_82 : decode (mB M_X7_bury) 82 = .ok (.invokevirtual 98, 3) := by decide +kernel
theorem dX7_bury_85 : decode (mB M_X7_bury) 85 = .ok (.invokevirtual 122, 3) := by decide +kernel
theorem dX7_bury_88 : decode (mB M_X7_bury) 88 = .ok (.aload_n 0, 1) := by decide +kernel
theorem dX7_bury_89 : decode (mB M_X7_bury) 89 = .ok (.getfield 24, 3) := by decide +kernel
theorem dX7_bury_92 : decode (mB M_X7_bury) 92 = .ok (.iload_n 1, 1) := by decide +kernel
theorem dX7_bury_93 : decode (mB M_X7_bury) 93 = .ok (.iload_n 2, 1) := by decide +kernel
theorem dX7_bury_94 : decode (mB M_X7_bury) 94 = .ok (.iconst 0, 1) := by decide +kernel
theorem dX7_bury_95 : decode (mB M_X7_bury) 95 = .ok (.invokevirtual 206, 3) := by decide +kernel
theorem dX7_bury_98 : decode (mB M_X7_bury) 98 = .ok (.aload_n 0, 1) := by decide +kernel
theorem dX7_bury_99 : decode (mB M_X7_bury) 99 = .ok (.getfield 51, 3) := by decide +kernel
theorem dX7_bury_102 : decode (mB M_X7_bury) 102 = .ok (.iload_n 1, 1) := by decide +kernel
theorem dX7_bury_103 : decode (mB M_X7_bury) 103 = .ok (.iload_n 2, 1) := by decide +kernel
theorem dX7_bury_104 : decode (mB M_X7_bury) 104 = .ok (.invokevirtual 212, 3) := by decide +kernel
theorem dX7_bury_107 : decode (mB M_X7_bury) 107 = .ok (.ireturn, 1) := by decide +kernel
def b_X7_bury_14 (h : HP) : Option ((Int32 ⊕ String) × HP) :=
  some (.inr "java/lang/IndexOutOfBoundsException", h)
def b_X7_bury_0 (v0 : Nat) (v1 : Int32) (v2 : Int32) (h : HP) : Option ((Int32 ⊕ String) × HP) :=
  (f_X7_isKey h v1).bind fun y1 => if y1 = 0 then b_X7_bury_14 h else (f_X7_isKey h v2).bind fun y3 => if y3 = 0 then b_X7_bury_14 h else if v1 ≤ v2 then (gR 7 1 h v0).bind fun x6 => (f_X3_isFull h x6).bind fun y7 => if y7 = 0 then (gR 7 3 h v0).bind fun x9 => (gR 7 1 h v0).bind fun x10 => (f_X1_remember h x9 x10).bind fun y11 => (gR 7 6 y11 v0).bind fun x12 => (gR 7 1 y11 v0).bind fun x13 => (gR 7 1 y11 v0).bind fun x14 => (f_X3_latest y11 x14).bind fun y15 => (f_X5_look y11 x12 x13 y15).bind fun y16 => (gR 7 1 y16 v0).bind fun x17 => (f_X3_addWrite y16 x17 v1 v2 0).bind fun y18 => (gR 7 6 y18 v0).bind fun x19 => (f_X5_seenIn y18 x19 v1 v2).bind fun y20 => some (.inl y20, y18) else some (.inr "java/lang/IllegalStateException", h) else some (.inr "java/lang/IllegalArgumentException", h)
def f_X7_bury (h : HP) (v0 : Nat) (v1 : Int32) (v2 : Int32) : Option ((Int32 ⊕ String) × HP) := (kO 7 h v0).bind fun _ => b_X7_bury_0 v0 v1 v2 h
theorem w_X7_bury_14 {l : Launch} {X : SCR} {Q : PST} {bc bs : Nat} {res : (Int32 ⊕ String) × HP} {h : HP} (hQ : ∀ sz', Q (outT res.1) res.2 sz') (hno : ∀ E, res.1 ≠ .inr E) {sz : Nat} (hf : b_X7_bury_14 h  = some res) : SP l X M_X7_bury 14 [] [] h sz bc bs Q := by
  rw [b_X7_bury_14] at hf
  obtain rfl := Option.some.inj hf
  exact absurd rfl (hno _)

theorem w_X7_bury_0 {l : Launch} {X : SCR} {Q : PST} {bc bs : Nat} {res : (Int32 ⊕ String) × HP} {h : HP} (hQ : ∀ sz', Q (outT res.1) res.2 sz') (hno : ∀ E, res.1 ≠ .inr E) {v0 : Nat} {v1 : Int32} {v2 : Int32} {sz : Nat} (hf : b_X7_bury_0 v0 v1 v2 h  = some res) : SP l X M_X7_bury 0 [(0, .ref v0), (1, .int v1), (2, .int v2)] [] h sz bc bs Q := by
  rw [b_X7_bury_0] at hf
  refine sp_iload_n (pc := 0) dX7_bury_0 1 rfl ?_
  obtain ⟨y1, ey1, hf⟩ := ob hf
  refine sp_callSi (pc := 1) (z := M_X7_isKey) (As := [.int v1]) (bc2 := bc) (bs2 := bs) (m_X7_isKey (Q := _) (fun sz => ⟨y1, rfl, ?_⟩) ey1) rfl dX7_bury_1 rfl ck_X7_bury_134 (Nat.le_of_ble_eq_true rfl) rfl rfl rfl
  refine sp_if_eq (pc := 4) (tgt := 14) dX7_bury_4 (by decide) (fun c2 => ?_) (fun c2 => ?_)
  · rw [if_pos c2] at hf
    exact sp_sub [] rfl (w_X7_bury_14 hQ hno hf)
  · rw [if_neg c2] at hf
    refine sp_iload_n (pc := 7) dX7_bury_7 2 rfl ?_
    obtain ⟨y3, ey3, hf⟩ := ob hf
    refine sp_callSi (pc := 8) (z := M_X7_isKey) (As := [.int v2]) (bc2 := bc) (bs2 := bs) (m_X7_isKey (Q := _) (fun sz => ⟨y3, rfl, ?_⟩) ey3) rfl dX7_bury_8 rfl ck_X7_bury_134 (Nat.le_of_ble_eq_true rfl) rfl rfl rfl
    refine sp_if_ne (pc := 11) (tgt := 24) dX7_bury_11 (by decide) (fun c4 => ?_) (fun c4 => ?_)
    · rw [if_neg c4] at hf
      refine sp_iload_n (pc := 24) dX7_bury_24 2 rfl ?_
      refine sp_iload_n (pc := 25) dX7_bury_25 1 rfl ?_
      refine sp_icmp_ge (pc := 26) (tgt := 39) dX7_bury_26 (by decide) (fun c5 => ?_) (fun c5 => ?_)
      · rw [if_pos c5] at hf
        refine sp_aload_n (pc := 39) dX7_bury_39 0 rfl ?_
        obtain ⟨x6, ex6, hf⟩ := ob hf
        refine sp_gR (pc := 40) fl_RX7_24 dX7_bury_40 ex6 ?_
        obtain ⟨y7, ey7, hf⟩ := ob hf
        obtain ⟨fsy7, hoy7⟩ := o_X3_isFull ey7
        refine sp_callVi (pc := 43) (z := M_X3_isFull) (As := []) (b := x6) (bc2 := bc) (bs2 := bs) (m_X3_isFull (Q := _) (fun sz => ⟨y7, rfl, ?_⟩) ey7) rfl dX7_bury_43 hoy7 rfl rfl ck_X7_bury_199 (Nat.le_of_ble_eq_true rfl) rfl rfl rfl
        refine sp_if_eq (pc := 46) (tgt := 59) dX7_bury_46 (by decide) (fun c8 => ?_) (fun c8 => ?_)
        · rw [if_pos c8] at hf
          refine sp_aload_n (pc := 59) dX7_bury_59 0 rfl ?_
          obtain ⟨x9, ex9, hf⟩ := ob hf
          refine sp_gR (pc := 60) fl_RX7_36 dX7_bury_60 ex9 ?_
          refine sp_aload_n (pc := 63) dX7_bury_63 0 rfl ?_
          obtain ⟨x10, ex10, hf⟩ := ob hf
          refine sp_gR (pc := 64) fl_RX7_24 dX7_bury_64 ex10 ?_
          obtain ⟨y11, ey11, hf⟩ := ob hf
          obtain ⟨fsy11, hoy11⟩ := o_X1_remember ey11
          refine sp_callVv (pc := 67) (z := M_X1_remember) (As := [.ref x10]) (b := x9) (bc2 := bc) (bs2 := bs) (m_X1_remember (Q := _) (fun sz => ⟨(), rfl, ?_⟩) ey11) rfl dX7_bury_67 hoy11 rfl rfl ck_X7_bury_202 (Nat.le_of_ble_eq_true rfl) rfl rfl rfl
          refine sp_aload_n (pc := 70) dX7_bury_70 0 rfl ?_
          obtain ⟨x12, ex12, hf⟩ := ob hf
          refine sp_gR (pc := 71) fl_RX7_51 dX7_bury_71 ex12 ?_
          refine sp_aload_n (pc := 74) dX7_bury_74 0 rfl ?_
          obtain ⟨x13, ex13, hf⟩ := ob hf
          refine sp_gR (pc := 75) fl_RX7_24 dX7_bury_75 ex13 ?_
          refine sp_aload_n (pc := 78) dX7_bury_78 0 rfl ?_
          obtain ⟨x14, ex14, hf⟩ := ob hf
          refine sp_gR (pc := 79) fl_RX7_24 dX7_bury_79 ex14 ?_
          obtain ⟨y15, ey15, hf⟩ := ob hf
          obtain ⟨fsy15, hoy15⟩ := o_X3_latest ey15
          refine sp_callVi (pc := 82) (z := M_X3_latest) (As := []) (b := x14) (bc2 := bc) (bs2 := bs) (m_X3_latest (Q := _) (fun sz => ⟨y15, rfl, ?_⟩) ey15) rfl dX7_bury_82 hoy15 rfl rfl ck_X7_bury_98 (Nat.le_of_ble_eq_true rfl) rfl rfl rfl
          obtain ⟨y16, ey16, hf⟩ := ob hf
          obtain ⟨fsy16, hoy16⟩ := o_X5_look ey16
          refine sp_callVv (pc := 85) (z := M_X5_look) (As := [.ref x13, .int y15]) (b := x12) (bc2 := bc) (bs2 := bs) (m_X5_look (Q := _) (fun sz => ⟨(), rfl, ?_⟩) ey16) rfl dX7_bury_85 hoy16 rfl rfl ck_X7_bury_122 (Nat.le_of_ble_eq_true rfl) rfl rfl rfl
          refine sp_aload_n (pc := 88) dX7_bury_88 0 rfl ?_
          obtain ⟨x17, ex17, hf⟩ := ob hf
          refine sp_gR (pc := 89) fl_RX7_24 dX7_bury_89 ex17 ?_
          refine sp_iload_n (pc := 92) dX7_bury_92 1 rfl ?_
          refine sp_iload_n (pc := 93) dX7_bury_93 2 rfl ?_
          refine sp_iconst (pc := 94) (v := 0) dX7_bury_94 (by decide) ?_
          obtain ⟨y18, ey18, hf⟩ := ob hf
          obtain ⟨fsy18, hoy18⟩ := o_X3_addWrite ey18
          refine sp_callVv (pc := 95) (z := M_X3_addWrite) (As := [.int v1, .int v2, .int 0]) (b := x17) (bc2 := bc) (bs2 := bs) (m_X3_addWrite (Q := _) (fun sz => ⟨(), rfl, ?_⟩) ey18) rfl dX7_bury_95 hoy18 rfl rfl ck_X7_bury_206 (Nat.le_of_ble_eq_true rfl) rfl rfl rfl
          refine sp_aload_n (pc := 98) dX7_bury_98 0 rfl ?_
          obtain ⟨x19, ex19, hf⟩ := ob hf
          refine sp_gR (pc := 99) fl_RX7_51 dX7_bury_99 ex19 ?_
          refine sp_iload_n (pc := 102) dX7_bury_102 1 rfl ?_
          refine sp_iload_n (pc := 103) dX7_bury_103 2 rfl ?_
          obtain ⟨y20, ey20, hf⟩ := ob hf
          obtain ⟨fsy20, hoy20⟩ := o_X5_seenIn ey20
          refine sp_callVi (pc := 104) (z := M_X5_seenIn) (As := [.int v1, .int v2]) (b := x19) (bc2 := bc) (bs2 := bs) (m_X5_seenIn (Q := _) (fun sz => ⟨y20, rfl, ?_⟩) ey20) rfl dX7_bury_104 hoy20 rfl rfl ck_X7_bury_212 (Nat.le_of_ble_eq_true rfl) rfl rfl rfl
          obtain rfl := Option.some.inj hf
          exact sp_ireturn (pc := 107) dX7_bury_107 rfl rfl (hQ _)
        · rw [if_neg c8] at hf
          obtain rfl := Option.some.inj hf
          exact absurd rfl (hno _)
      · rw [if_neg c5] at hf
        obtain rfl := Option.some.inj hf
        exact absurd rfl (hno _)
    · rw [if_pos c4] at hf
      exact sp_sub [] rfl (w_X7_bury_14 hQ hno hf)

theorem o_X7_bury {h : HP} {v0 : Nat} {v1 : Int32} {v2 : Int32} {res : (Int32 ⊕ String) × HP} (hf : f_X7_bury h v0 v1 v2 = some res) : ∃ fs, h v0 = some (.inr (7, fs)) := by
  obtain ⟨u, eu, -⟩ := ob hf
  exact kO_spec eu

theorem m_X7_bury {l : Launch} {Q : PST} {h : HP} {v0 : Nat} {v1 : Int32} {v2 : Int32} {sz : Nat} {res : (Int32 ⊕ String) × HP} (hQ : ∀ sz', Q (outT res.1) res.2 sz') (hno : ∀ E, res.1 ≠ .inr E) (hf : f_X7_bury h v0 v1 v2 = some res) : MM l M_X7_bury [.ref v0, .int v1, .int v2] h sz Q := by
  obtain ⟨u, eu, hf⟩ := ob hf
  exact MM_of wok_X7_bury (by decide +kernel) (Nat.le_of_ble_eq_true rfl) ((w_X7_bury_0 hQ hno hf))

theorem dX7_open_0 : decode (mB M_X7_open) 0 = .ok (.aload_n 0, 1) := by decide +kernel
theorem dX7_open_1 : decode (mB M_X7_open) 1 = .ok (.getfield 24, 3) := by decide +kernel
theorem dX7_open_4 : decode (mB M_X7_open) 4 = .ok (.invokevirtual 215, 3) := by decide +kernel
theorem dX7_open_7 : decode (mB M_X7_open) 7 = .ok (.ifCond .ne 13, 3) := by decide +kernel
theorem dX7_open_10 : decode (mB M_X7_open) 10 = .ok (.new 66, 3) := by decide +kernel
theorem dX7_open_13 : decode (mB M_X7_open) 13 = .ok (.dup, 1) := by decide +kernel
theorem dX7_open_14 : decode (mB M_X7_open) 14 = .ok (.ldc 218, 2) := by decide +kernel
theorem dX7_open_16 : decode (mB M_X7_open) 16 = .ok (.invokespecial 70, 3) := by decide +kernel
theorem dX7_open_19 : decode (mB M_X7_open) 19 = .ok (.athrow, 1) := by decide +kernel
theorem dX7_open_20 : decode (mB M_X7_open) 20 = .ok (.aload_n 0, 1) := by decide +kernel
theorem dX7_open_21 : decode (mB M_X7_open) 21 = .ok (.getfield 36, 3) := by decide +kernel
theorem dX7_open_24 : decode (mB M_X7_open) 24 = .ok (.aload_n 0, 1) := by decide +kernel
theorem dX7_open_25 : decode (mB M_X7_open) 25 = .ok (.getfield 24, 3) := by decide +kernel
theorem dX7_open_28 : decode (mB M_X7_open) 28 = .ok (.invokevirtual 202, 3) := by decide +kernel
theorem dX7_open_31 : decode (mB M_X7_open) 31 = .ok (.aload_n 0, 1) := by decide +kernel
theorem dX7_open_32 : decode (mB M_X7_open) 32 = .ok (.getfield 24, 3) := by decide +kernel
theorem dX7_open_35 : decode (mB M_X7_open) 35 = .ok (.invokevirtual 220, 3) := by decide +kernel
theorem dX7_open_38 : decode (mB M_X7_open) 38 = .ok (.aload_n 0, 1) := by decide +kernel
theorem dX7_open_39 : decode (mB M_X7_open) 39 = .ok (.getfield 24, 3) := by decide +kernel
theorem dX7_open_42 : decode (mB M_X7_open) 42 = .ok (.invokevirtual 108, 3) := by decide +kernel
theorem dX7_open_45 : decode (mB M_X7_open) 45 = .ok (.iconst 1, 1) := by decide +kernel
theorem dX7_open_46 : decode (mB M_X7_open) 46 = .ok (.isub, 1) := by decide +kernel
theorem dX7_open_47 : decode (mB M_X7_open) 47 = .ok (.ireturn, 1) := by decide +kernel
def b_X7_open_0 (v0 : Nat) (h : HP) : Option ((Int32 ⊕ String) × HP) :=
  (gR 7 1 h v0).bind fun x1 => (f_X3_canOpen h x1).bind fun y2 => if y2 = 0 then some (.inr "java/lang/IllegalStateException", h) else (gR 7 3 h v0).bind fun x4 => (gR 7 1 h v0).bind fun x5 => (f_X1_remember h x4 x5).bind fun y6 => (gR 7 1 y6 v0).bind fun x7 => (f_X3_addEye y6 x7).bind fun y8 => (gR 7 1 y8 v0).bind fun x9 => (f_X3_eyes y8 x9).bind fun y10 => some (.inl (y10 - 1), y8)
def f_X7_open (h : HP) (v0 : Nat) : Option ((Int32 ⊕ String) × HP) := (kO 7 h v0).bind fun _ => b_X7_open_0 v0 h
theorem w_X7_open_0 {l : Launch} {X : SCR} {Q : PST} {bc bs : Nat} {res : (Int32 ⊕ String) × HP} {h : HP} (hQ : ∀ sz', Q (outT res.1) res.2 sz') (hno : ∀ E, res.1 ≠ .inr E) {v0 : Nat} {sz : Nat} (hf : b_X7_open_0 v0 h  = some res) : SP l X M_X7_open 0 [(0, .ref v0)] [] h sz bc bs Q := by
  rw [b_X7_open_0] at hf
  refine sp_aload_n (pc := 0) dX7_open_0 0 rfl ?_
  obtain ⟨x1, ex1, hf⟩ := ob hf
  refine sp_gR (pc := 1) fl_RX7_24 dX7_open_1 ex1 ?_
  obtain ⟨y2, ey2, hf⟩ := ob hf
  obtain ⟨fsy2, hoy2⟩ := o_X3_canOpen ey2
  refine sp_callVi (pc := 4) (z := M_X3_canOpen) (As := []) (b := x1) (bc2 := bc) (bs2 := bs) (m_X3_canOpen (Q := _) (fun sz => ⟨y2, rfl, ?_⟩) ey2) rfl dX7_open_4 hoy2 rfl rfl ck_X7_open_215 (Nat.le_of_ble_eq_true rfl) rfl rfl rfl
  refine sp_if_ne (pc := 7) (tgt := 20) dX7_open_7 (by decide) (fun c3 => ?_) (fun c3 => ?_)
  · rw [if_neg c3] at hf
    refine sp_aload_n (pc := 20) dX7_open_20 0 rfl ?_
    obtain ⟨x4, ex4, hf⟩ := ob hf
    refine sp_gR (pc := 21) fl_RX7_36 dX7_open_21 ex4 ?_
    refine sp_aload_n (pc := 24) dX7_open_24 0 rfl ?_
    obtain ⟨x5, ex5, hf⟩ := ob hf
    refine sp_gR (pc := 25) fl_RX7_24 dX7_open_25 ex5 ?_
    obtain ⟨y6, ey6, hf⟩ := ob hf
    obtain ⟨fsy6, hoy6⟩ := o_X1_remember ey6
    refine sp_callVv (pc := 28) (z := M_X1_remember) (As := [.ref x5]) (b := x4) (bc2 := bc) (bs2 := bs) (m_X1_remember (Q := _) (fun sz => ⟨(), rfl, ?_⟩) ey6) rfl dX7_open_28 hoy6 rfl rfl ck_X7_open_202 (Nat.le_of_ble_eq_true rfl) rfl rfl rfl
    refine sp_aload_n (pc := 31) dX7_open_31 0 rfl ?_
    obtain ⟨x7, ex7, hf⟩ := ob hf
    refine sp_gR (pc := 32) fl_RX7_24 dX7_open_32 ex7 ?_
    obtain ⟨y8, ey8, hf⟩ := ob hf
    obtain ⟨fsy8, hoy8⟩ := o_X3_addEye ey8
    refine sp_callVv (pc := 35) (z := M_X3_addEye) (As := []) (b := x7) (bc2 := bc) (bs2 := bs) (m_X3_addEye (Q := _) (fun sz => ⟨(), rfl, ?_⟩) ey8) rfl dX7_open_35 hoy8 rfl rfl ck_X7_open_220 (Nat.le_of_ble_eq_true rfl) rfl rfl rfl
    refine sp_aload_n (pc := 38) dX7_open_38 0 rfl ?_
    obtain ⟨x9, ex9, hf⟩ := ob hf
    refine sp_gR (pc := 39) fl_RX7_24 dX7_open_39 ex9 ?_
    obtain ⟨y10, ey10, hf⟩ := ob hf
    obtain ⟨fsy10, hoy10⟩ := o_X3_eyes ey10
    refine sp_callVi (pc := 42) (z := M_X3_eyes) (As := []) (b := x9) (bc2 := bc) (bs2 := bs) (m_X3_eyes (Q := _) (fun sz => ⟨y10, rfl, ?_⟩) ey10) rfl dX7_open_42 hoy10 rfl rfl ck_X7_open_108 (Nat.le_of_ble_eq_true rfl) rfl rfl rfl
    refine sp_iconst (pc := 45) (v := 1) dX7_open_45 (by decide) ?_
    refine sp_isub (pc := 46) dX7_open_46 ?_
    obtain rfl := Option.some.inj hf
    exact sp_ireturn (pc := 47) dX7_open_47 rfl rfl (hQ _)
  · rw [if_pos c3] at hf
    obtain rfl := Option.some.inj hf
    exact absurd rfl (hno _)

theorem o_X7_open {h : HP} {v0 : Nat} {res : (Int32 ⊕ String) × HP} (hf : f_X7_open h v0 = some res) : ∃ fs, h v0 = some (.inr (7, fs)) := by
  obtain ⟨u, eu, -⟩ := ob hf
  exact kO_spec eu

theorem m_X7_open {l : Launch} {Q : PST} {h : HP} {v0 : Nat} {sz : Nat} {res : (Int32 ⊕ String) × HP} (hQ : ∀ sz', Q (outT res.1) res.2 sz') (hno : ∀ E, res.1 ≠ .inr E) (hf : f_X7_open h v0 = some res) : MM l M_X7_open [.ref v0] h sz Q := by
  obtain ⟨u, eu, hf⟩ := ob hf
  exact MM_of wok_X7_open (by decide +kernel) (Nat.le_of_ble_eq_true rfl) ((w_X7_open_0 hQ hno hf))

theorem dX7_close_0 : decode (mB M_X7_close) 0 = .ok (.aload_n 0, 1) := by decide +kernel
theorem dX7_close_1 : decode (mB M_X7_close) 1 = .ok (.getfield 24, 3) := by decide +kernel
theorem dX7_close_4 : decode (mB M_X7_close) 4 = .ok (.iload_n 1, 1) := by decide +kernel
theorem dX7_close_5 : decode (mB M_X7_close) 5 = .ok (.invokevirtual 187, 3) := by decide +kernel
theorem dX7_close_8 : decode (mB M_X7_close) 8 = .ok (.ifCond .ne 13, 3) := by decide +kernel
theorem dX7_close_11 : decode (mB M_X7_close) 11 = .ok (.new 140, 3) := by decide +kernel
theorem dX7_close_14 : decode (mB M_X7_close) 14 = .ok (.dup, 1) := by decide +kernel
theorem dX7_close_15 : decode (mB M_X7_close) 15 = .ok (.ldc 190, 2) := by decide +kernel
theorem dX7_close_17 : decode (mB M_X7_close) 17 = .ok (.invokespecial 144, 3) := by decide +kernel
theorem dX7_close_20 : decode (mB M_X7_close) 20 = .ok (.athrow, 1) := by decide +kernel
theorem dX7_close_21 : decode (mB M_X7_close) 21 = .ok (.aload_n 0, 1) := by decide +kernel
theorem dX7_close_22 : decode (mB M_X7_close) 22 = .ok (.getfield 36, 3) := by decide +kernel
theorem dX7_close_25 : decode (mB M_X7_close) 25 = .ok (.aload_n 0, 1) := by decide +kernel
theorem dX7_close_26 : decode (mB M_X7_close) 26 = .ok (.getfield 24, 3) := by decide +kernel
theorem dX7_close_29 : decode (mB M_X7_close) 29 = .ok (.invokevirtual 202, 3) := by decide +kernel
theorem dX7_close_32 : decode (mB M_X7_close) 32 = .ok (.aload_n 0, 1) := by decide +kernel
theorem dX7_close_33 : decode (mB M_X7_close) 33 = .ok (.getfield 24, 3) := by decide +kernel
theorem dX7_close_36 : decode (mB M_X7_close) 36 = .ok (.iload_n 1, 1) := by decide +kernel
theorem dX7_close_37 : decode (mB M_X7_close) 37 = .ok (.invokevirtual 223, 3) := by decide +kernel
theorem dX7_close_40 : decode (mB M_X7_close) 40 = .ok (.aload_n 0, 1) := by decide +kernel
theorem dX7_close_41 : decode (mB M_X7_close) 41 = .ok (.getfield 24, 3) := by decide +kernel
theorem dX7_close_44 : decode (mB M_X7_close) 44 = .ok (.invokevirtual 108, 3) := by decide +kernel
theorem dX7_close_47 : decode (mB M_X7_close) 47 = .ok (.ireturn, 1) := by decide +kernel
def b_X7_close_0 (v0 : Nat) (v1 : Int32) (h : HP) : Option ((Int32 ⊕ String) × HP) :=
  (gR 7 1 h v0).bind fun x1 => (f_X3_isEye h x1 v1).bind fun y2 => if y2 = 0 then some (.inr "java/lang/IndexOutOfBoundsException", h) else (gR 7 3 h v0).bind fun x4 => (gR 7 1 h v0).bind fun x5 => (f_X1_remember h x4 x5).bind fun y6 => (gR 7 1 y6 v0).bind fun x7 => (f_X3_dropEye y6 x7 v1).bind fun y8 => (gR 7 1 y8 v0).bind fun x9 => (f_X3_eyes y8 x9).bind fun y10 => some (.inl y10, y8)
def f_X7_close (h : HP) (v0 : Nat) (v1 : Int32) : Option ((Int32 ⊕ String) × HP) := (kO 7 h v0).bind fun _ => b_X7_close_0 v0 v1 h
theorem w_X7_close_0 {l : Launch} {X : SCR} {Q : PST} {bc bs : Nat} {res : (Int32 ⊕ String) × HP} {h : HP} (hQ : ∀ sz', Q (outT res.1) res.2 sz') (hno : ∀ E, res.1 ≠ .inr E) {v0 : Nat} {v1 : Int32} {sz : Nat} (hf : b_X7_close_0 v0 v1 h  = some res) : SP l X M_X7_close 0 [(0, .ref v0), (1, .int v1)] [] h sz bc bs Q := by
  rw [b_X7_close_0] at hf
  refine sp_aload_n (pc := 0) dX7_close_0 0 rfl ?_
  obtain ⟨x1, ex1, hf⟩ := ob hf
  refine sp_gR (pc := 1) fl_RX7_24 dX7_close_1 ex1 ?_
  refine sp_iload_n (pc := 4) dX7_close_4 1 rfl ?_
  obtain ⟨y2, ey2, hf⟩ := ob hf
  obtain ⟨fsy2, hoy2⟩ := o_X3_isEye ey2
  refine sp_callVi (pc := 5) (z := M_X3_isEye) (As := [.int v1]) (b := x1) (bc2 := bc) (bs2 := bs) (m_X3_isEye (Q := _) (fun sz => ⟨y2, rfl, ?_⟩) ey2) rfl dX7_close_5 hoy2 rfl rfl ck_X7_close_187 (Nat.le_of_ble_eq_true rfl) rfl rfl rfl
  refine sp_if_ne (pc := 8) (tgt := 21) dX7_close_8 (by decide) (fun c3 => ?_) (fun c3 => ?_)
  · rw [if_neg c3] at hf
    refine sp_aload_n (pc := 21) dX7_close_21 0 rfl ?_
    obtain ⟨x4, ex4, hf⟩ := ob hf
    refine sp_gR (pc := 22) fl_RX7_36 dX7_close_22 ex4 ?_
    refine sp_aload_n (pc := 25) dX7_close_25 0 rfl ?_
    obtain ⟨x5, ex5, hf⟩ := ob hf
    refine sp_gR (pc := 26) fl_RX7_24 dX7_close_26 ex5 ?_
    obtain ⟨y6, ey6, hf⟩ := ob hf
    obtain ⟨fsy6, hoy6⟩ := o_X1_remember ey6
    refine sp_callVv (pc := 29) (z := M_X1_remember) (As := [.ref x5]) (b := x4) (bc2 := bc) (bs2 := bs) (m_X1_remember (Q := _) (fun sz => ⟨(), rfl, ?_⟩) ey6) rfl dX7_close_29 hoy6 rfl rfl ck_X7_close_202 (Nat.le_of_ble_eq_true rfl) rfl rfl rfl
    refine sp_aload_n (pc := 32) dX7_close_32 0 rfl ?_
    obtain ⟨x7, ex7, hf⟩ := ob hf
    refine sp_gR (pc := 33) fl_RX7_24 dX7_close_33 ex7 ?_
    refine sp_iload_n (pc := 36) dX7_close_36 1 rfl ?_
    obtain ⟨y8, ey8, hf⟩ := ob hf
    obtain ⟨fsy8, hoy8⟩ := o_X3_dropEye ey8
    refine sp_callVv (pc := 37) (z := M_X3_dropEye) (As := [.int v1]) (b := x7) (bc2 := bc) (bs2 := bs) (m_X3_dropEye (Q := _) (fun sz => ⟨(), rfl, ?_⟩) ey8) rfl dX7_close_37 hoy8 rfl rfl ck_X7_close_223 (Nat.le_of_ble_eq_true rfl) rfl rfl rfl
    refine sp_aload_n (pc := 40) dX7_close_40 0 rfl ?_
    obtain ⟨x9, ex9, hf⟩ := ob hf
    refine sp_gR (pc := 41) fl_RX7_24 dX7_close_41 ex9 ?_
    obtain ⟨y10, ey10, hf⟩ := ob hf
    obtain ⟨fsy10, hoy10⟩ := o_X3_eyes ey10
    refine sp_callVi (pc := 44) (z := M_X3_eyes) (As := []) (b := x9) (bc2 := bc) (bs2 := bs) (m_X3_eyes (Q := _) (fun sz => ⟨y10, rfl, ?_⟩) ey10) rfl dX7_close_44 hoy10 rfl rfl ck_X7_close_108 (Nat.le_of_ble_eq_true rfl) rfl rfl rfl
    obtain rfl := Option.some.inj hf
    exact sp_ireturn (pc := 47) dX7_close_47 rfl rfl (hQ _)
  · rw [if_pos c3] at hf
    obtain rfl := Option.some.inj hf
    exact absurd rfl (hno _)

theorem o_X7_close {h : HP} {v0 : Nat} {v1 : Int32} {res : (Int32 ⊕ String) × HP} (hf : f_X7_close h v0 v1 = some res) : ∃ fs, h v0 = some (.inr (7, fs)) := by
  obtain ⟨u, eu, -⟩ := ob hf
  exact kO_spec eu

theorem m_X7_close {l : Launch} {Q : PST} {h : HP} {v0 : Nat} {v1 : Int32} {sz : Nat} {res : (Int32 ⊕ String) × HP} (hQ : ∀ sz', Q (outT res.1) res.2 sz') (hno : ∀ E, res.1 ≠ .inr E) (hf : f_X7_close h v0 v1 = some res) : MM l M_X7_close [.ref v0, .int v1] h sz Q := by
  obtain ⟨u, eu, hf⟩ := ob hf
  exact MM_of wok_X7_close (by decide +kernel) (Nat.le_of_ble_eq_true rfl) ((w_X7_close_0 hQ hno hf))

theorem dX7_flush_0 : decode (mB M_X7_flush) 0 = .ok (.aload_n 0, 1) := by decide +kernel
theorem dX7_flush_1 : decode (mB M_X7_flush) 1 = .ok (.getfield 24, 3) := by decide +kernel
theorem dX7_flush_4 : decode (mB M_X7_flush) 4 = .ok (.invokevirtual 226, 3) := by decide +kernel
theorem dX7_flush_7 : decode (mB M_X7_flush) 7 = .ok (.ifCond .ne 13, 3) := by decide +kernel
theorem dX7_flush_10 : decode (mB M_X7_flush) 10 = .ok (.new 66, 3) := by decide +kernel
theorem dX7_flush_13 : decode (mB M_X7_flush) 13 = .ok (.dup, 1) := by decide +kernel
theorem dX7_flush_14 : decode (mB M_X7_flush) 14 = .ok (.ldc 229, 2) := by decide +kernel
theorem dX7_flush_16 : decode (mB M_X7_flush) 16 = .ok (.invokespecial 70, 3) := by decide +kernel
theorem dX7_flush_19 : decode (mB M_X7_flush) 19 = .ok (.athrow, 1) := by decide +kernel
theorem dX7_flush_20 : decode (mB M_X7_flush) 20 = .ok (.aload_n 0, 1) := by decide +kernel
theorem dX7_flush_21 : decode (mB M_X7_flush) 21 = .ok (.getfield 36, 3) := by decide +kernel
theorem dX7_flush_24 : decode (mB M_X7_flush) 24 = .ok (.aload_n 0, 1) := by decide +kernel
theorem dX7_flush_25 : decode (mB M_X7_flush) 25 = .ok (.getfield 24, 3) := by decide +kernel
theorem dX7_flush_28 : decode (mB M_X7_flush) 28 = .ok (.invokevirtual 202, 3) := by decide +kernel
theorem dX7_flush_31 : decode (mB M_X7_flush) 31 = .ok (.aload_n 0, 1) := by decide +kernel
theorem dX7_flush_32 : decode (mB M_X7_flush) 32 = .ok (.getfield 24, 3) := by decide +kernel
theorem dX7_flush_35 : decode (mB M_X7_flush) 35 = .ok (.invokevirtual 231, 3) := by decide +kernel
theorem dX7_flush_38 : decode (mB M_X7_flush) 38 = .ok (.ireturn, 1) := by decide +kernel
def b_X7_flush_0 (v0 : Nat) (h : HP) : Option ((Int32 ⊕ String) × HP) :=
  (gR 7 1 h v0).bind fun x1 => (f_X3_canFlush h x1).bind fun y2 => if y2.1 = 0 then some (.inr "java/lang/IllegalStateException", y2.2) else (gR 7 3 y2.2 v0).bind fun x4 => (gR 7 1 y2.2 v0).bind fun x5 => (f_X1_remember y2.2 x4 x5).bind fun y6 => (gR 7 1 y6 v0).bind fun x7 => (f_X3_flushMemory y6 x7).bind fun y8 => some (.inl y8.1, y8.2)
def f_X7_flush (h : HP) (v0 : Nat) : Option ((Int32 ⊕ String) × HP) := (kO 7 h v0).bind fun _ => b_X7_flush_0 v0 h
theorem w_X7_flush_0 {l : Launch} {X : SCR} {Q : PST} {bc bs : Nat} {res : (Int32 ⊕ String) × HP} {h : HP} (hQ : ∀ sz', Q (outT res.1) res.2 sz') (hno : ∀ E, res.1 ≠ .inr E) {v0 : Nat} {sz : Nat} (hf : b_X7_flush_0 v0 h  = some res) : SP l X M_X7_flush 0 [(0, .ref v0)] [] h sz bc bs Q := by
  rw [b_X7_flush_0] at hf
  refine sp_aload_n (pc := 0) dX7_flush_0 0 rfl ?_
  obtain ⟨x1, ex1, hf⟩ := ob hf
  refine sp_gR (pc := 1) fl_RX7_24 dX7_flush_1 ex1 ?_
  obtain ⟨y2, ey2, hf⟩ := ob hf
  obtain ⟨fsy2, hoy2⟩ := o_X3_canFlush ey2
  refine sp_callVi (pc := 4) (z := M_X3_canFlush) (As := []) (b := x1) (bc2 := bc) (bs2 := bs) (m_X3_canFlush (Q := _) (fun sz => ⟨y2.1, rfl, ?_⟩) ey2) rfl dX7_flush_4 hoy2 rfl rfl ck_X7_flush_226 (Nat.le_of_ble_eq_true rfl) rfl rfl rfl
  refine sp_if_ne (pc := 7) (tgt := 20) dX7_flush_7 (by decide) (fun c3 => ?_) (fun c3 => ?_)
  · rw [if_neg c3] at hf
    refine sp_aload_n (pc := 20) dX7_flush_20 0 rfl ?_
    obtain ⟨x4, ex4, hf⟩ := ob hf
    refine sp_gR (pc := 21) fl_RX7_36 dX7_flush_21 ex4 ?_
    refine sp_aload_n (pc := 24) dX7_flush_24 0 rfl ?_
    obtain ⟨x5, ex5, hf⟩ := ob hf
    refine sp_gR (pc := 25) fl_RX7_24 dX7_flush_25 ex5 ?_
    obtain ⟨y6, ey6, hf⟩ := ob hf
    obtain ⟨fsy6, hoy6⟩ := o_X1_remember ey6
    refine sp_callVv (pc := 28) (z := M_X1_remember) (As := [.ref x5]) (b := x4) (bc2 := bc) (bs2 := bs) (m_X1_remember (Q := _) (fun sz => ⟨(), rfl, ?_⟩) ey6) rfl dX7_flush_28 hoy6 rfl rfl ck_X7_flush_202 (Nat.le_of_ble_eq_true rfl) rfl rfl rfl
    refine sp_aload_n (pc := 31) dX7_flush_31 0 rfl ?_
    obtain ⟨x7, ex7, hf⟩ := ob hf
    refine sp_gR (pc := 32) fl_RX7_24 dX7_flush_32 ex7 ?_
    obtain ⟨y8, ey8, hf⟩ := ob hf
    obtain ⟨fsy8, hoy8⟩ := o_X3_flushMemory ey8
    refine sp_callVi (pc := 35) (z := M_X3_flushMemory) (As := []) (b := x7) (bc2 := bc) (bs2 := bs) (m_X3_flushMemory (Q := _) (fun sz => ⟨y8.1, rfl, ?_⟩) ey8) rfl dX7_flush_35 hoy8 rfl rfl ck_X7_flush_231 (Nat.le_of_ble_eq_true rfl) rfl rfl rfl
    obtain rfl := Option.some.inj hf
    exact sp_ireturn (pc := 38) dX7_flush_38 rfl rfl (hQ _)
  · rw [if_pos c3] at hf
    obtain rfl := Option.some.inj hf
    exact absurd rfl (hno _)

theorem o_X7_flush {h : HP} {v0 : Nat} {res : (Int32 ⊕ String) × HP} (hf : f_X7_flush h v0 = some res) : ∃ fs, h v0 = some (.inr (7, fs)) := by
  obtain ⟨u, eu, -⟩ := ob hf
  exact kO_spec eu

theorem m_X7_flush {l : Launch} {Q : PST} {h : HP} {v0 : Nat} {sz : Nat} {res : (Int32 ⊕ String) × HP} (hQ : ∀ sz', Q (outT res.1) res.2 sz') (hno : ∀ E, res.1 ≠ .inr E) (hf : f_X7_flush h v0 = some res) : MM l M_X7_flush [.ref v0] h sz Q := by
  obtain ⟨u, eu, hf⟩ := ob hf
  exact MM_of wok_X7_flush (by decide +kernel) (Nat.le_of_ble_eq_true rfl) ((w_X7_flush_0 hQ hno hf))

theorem dX7_merge_0 : decode (mB M_X7_merge) 0 = .ok (.aload_n 0, 1) := by decide +kernel
theorem dX7_merge_1 : decode (mB M_X7_merge) 1 = .ok (.getfield 24, 3) := by decide +kernel
theorem dX7_merge_4 : decode (mB M_X7_merge) 4 = .ok (.iload_n 1, 1) := by decide +kernel
theorem dX7_merge_5 : decode (mB M_X7_merge) 5 = .ok (.invokevirtual 234, 3) := by decide +kernel
theorem dX7_merge_8 : decode (mB M_X7_merge) 8 = .ok (.ifCond .ne 13, 3) := by decide +kernel
theorem dX7_merge_11 : decode (mB M_X7_merge) 11 = .ok (.new 140, 3) := by decide +kernel
theorem dX7_merge_14 : decode (mB M_X7_merge) 14 = .ok (.dup, 1) := by decide +kernel
theorem dX7_merge_15 : decode (mB M_X7_merge) 15 = .ok (.ldc 154, 2) := by decide +kernel
theorem dX7_merge_17 : decode (mB M_X7_merge) 17 = .ok (.invokespecial 144, 3) := by decide +kernel
theorem dX7_merge_20 : decode (mB M_X7_merge) 20 = .ok (.athrow, 1) := by decide +kernel
theorem dX7_merge_21 : decode (mB M_X7_merge) 21 = .ok (.aload_n 0, 1) := by decide +kernel
theorem dX7_merge_22 : decode (mB M_X7_merge) 22 = .ok (.getfield 24, 3) := by decide +kernel
theorem dX7_merge_25 : decode (mB M_X7_merge) 25 = .ok (.iload_n 1, 1) := by decide +kernel
theorem dX7_merge_26 : decode (mB M_X7_merge) 26 = .ok (.invokevirtual 237, 3) := by decide +kernel
theorem dX7_merge_29 : decode (mB M_X7_merge) 29 = .ok (.ifCond .ne 13, 3) := by decide +kernel
theorem dX7_merge_32 : decode (mB M_X7_merge) 32 = .ok (.new 66, 3) := by decide +kernel
theorem dX7_merge_35 : decode (mB M_X7_merge) 35 = .ok (.dup, 1) := by decide +kernel
theorem dX7_merge_36 : decode (mB M_X7_merge) 36 = .ok (.ldc 240, 2) := by decide +kernel
theorem dX7_merge_38 : decode (mB M_X7_merge) 38 = .ok (.invokespecial 70, 3) := by decide +kernel
theorem dX7_merge_41 : decode (mB M_X7_merge) 41 = .ok (.athrow, 1) := by decide +kernel
theorem dX7_merge_42 : decode (mB M_X7_merge) 42 = .ok (.aload_n 0, 1) := by decide +kernel
theorem dX7_merge_43 : decode (mB M_X7_merge) 43 = .ok (.getfield 36, 3) := by decide +kernel
theorem dX7_merge_46 : decode (mB M_X7_merge) 46 = .ok (.aload_n 0, 1) := by decide +kernel
theorem dX7_merge_47 : decode (mB M_X7_merge) 47 = .ok (.getfield 24, 3) := by decide +kernel
theorem dX7_merge_50 : decode (mB M_X7_merge) 50 = .ok (.invokevirtual 202, 3) := by decide +kernel
theorem dX7_merge_53 : decode (mB M_X7_merge) 53 = .ok (.aload_n 0, 1) := by decide +kernel
theorem dX7_merge_54 : decode (mB M_X7_merge) 54 = .ok (.getfield 24, 3) := by decide +kernel
theorem dX7_merge_57 : decode (mB M_X7_merge) 57 = .ok (.iload_n 1, 1) := by decide +kernel
theorem dX7_merge_58 : decode (mB M_X7_merge) 58 = .ok (.invokevirtual 242, 3) := by decide +kernel
theorem dX7_merge_61 : decode (mB M_X7_merge) 61 = .ok (.ireturn, 1) := by decide +kernel
def b_X7_merge_0 (v0 : Nat) (v1 : Int32) (h : HP) : Option ((Int32 ⊕ String) × HP) :=
  (gR 7 1 h v0).bind fun x1 => (f_X3_isRun h x1 v1).bind fun y2 => if y2 = 0 then some (.inr "java/lang/IndexOutOfBoundsException", h) else (gR 7 1 h v0).bind fun x4 => (f_X3_canMerge h x4 v1).bind fun y5 => if y5.1 = 0 then some (.inr "java/lang/IllegalStateException", y5.2) else (gR 7 3 y5.2 v0).bind fun x7 => (gR 7 1 y5.2 v0).bind fun x8 => (f_X1_remember y5.2 x7 x8).bind fun y9 => (gR 7 1 y9 v0).bind fun x10 => (f_X3_mergeRuns y9 x10 v1).bind fun y11 => some (.inl y11.1, y11.2)
def f_X7_merge (h : HP) (v0 : Nat) (v1 : Int32) : Option ((Int32 ⊕ String) × HP) := (kO 7 h v0).bind fun _ => b_X7_merge_0 v0 v1 h
theorem w_X7_merge_0 {l : Launch} {X : SCR} {Q : PST} {bc bs : Nat} {res : (Int32 ⊕ String) × HP} {h : HP} (hQ : ∀ sz', Q (outT res.1) res.2 sz') (hno : ∀ E, res.1 ≠ .inr E) {v0 : Nat} {v1 : Int32} {sz : Nat} (hf : b_X7_merge_0 v0 v1 h  = some res) : SP l X M_X7_merge 0 [(0, .ref v0), (1, .int v1)] [] h sz bc bs Q := by
  rw [b_X7_merge_0] at hf
  refine sp_aload_n (pc := 0) dX7_merge_0 0 rfl ?_
  obtain ⟨x1, ex1, hf⟩ := ob hf
  refine sp_gR (pc := 1) fl_RX7_24 dX7_merge_1 ex1 ?_
  refine sp_iload_n (pc := 4) dX7_merge_4 1 rfl ?_
  obtain ⟨y2, ey2, hf⟩ := ob hf
  obtain ⟨fsy2, hoy2⟩ := o_X3_isRun ey2
  refine sp_callVi (pc := 5) (z := M_X3_isRun) (As := [.int v1]) (b := x1) (bc2 := bc) (bs2 := bs) (m_X3_isRun (Q := _) (fun sz => ⟨y2, rfl, ?_⟩) ey2) rfl dX7_merge_5 hoy2 rfl rfl ck_X7_merge_234 (Nat.le_of_ble_eq_true rfl) rfl rfl rfl
  refine sp_if_ne (pc := 8) (tgt := 21) dX7_merge_8 (by decide) (fun c3 => ?_) (fun c3 => ?_)
  · rw [if_neg c3] at hf
    refine sp_aload_n (pc := 21) dX7_merge_21 0 rfl ?_
    obtain ⟨x4, ex4, hf⟩ := ob hf
    refine sp_gR (pc := 22) fl_RX7_24 dX7_merge_22 ex4 ?_
    refine sp_iload_n (pc := 25) dX7_merge_25 1 rfl ?_
    obtain ⟨y5, ey5, hf⟩ := ob hf
    obtain ⟨fsy5, hoy5⟩ := o_X3_canMerge ey5
    refine sp_callVi (pc := 26) (z := M_X3_canMerge) (As := [.int v1]) (b := x4) (bc2 := bc) (bs2 := bs) (m_X3_canMerge (Q := _) (fun sz => ⟨y5.1, rfl, ?_⟩) ey5) rfl dX7_merge_26 hoy5 rfl rfl ck_X7_merge_237 (Nat.le_of_ble_eq_true rfl) rfl rfl rfl
    refine sp_if_ne (pc := 29) (tgt := 42) dX7_merge_29 (by decide) (fun c6 => ?_) (fun c6 => ?_)
    · rw [if_neg c6] at hf
      refine sp_aload_n (pc := 42) dX7_merge_42 0 rfl ?_
      obtain ⟨x7, ex7, hf⟩ := ob hf
      refine sp_gR (pc := 43) fl_RX7_36 dX7_merge_43 ex7 ?_
      refine sp_aload_n (pc := 46) dX7_merge_46 0 rfl ?_
      obtain ⟨x8, ex8, hf⟩ := ob hf
      refine sp_gR (pc := 47) fl_RX7_24 dX7_merge_47 ex8 ?_
      obtain ⟨y9, ey9, hf⟩ := ob hf
      obtain ⟨fsy9, hoy9⟩ := o_X1_remember ey9
      refine sp_callVv (pc := 50) (z := M_X1_remember) (As := [.ref x8]) (b := x7) (bc2 := bc) (bs2 := bs) (m_X1_remember (Q := _) (fun sz => ⟨(), rfl, ?_⟩) ey9) rfl dX7_merge_50 hoy9 rfl rfl ck_X7_merge_202 (Nat.le_of_ble_eq_true rfl) rfl rfl rfl
      refine sp_aload_n (pc := 53) dX7_merge_53 0 rfl ?_
      obtain ⟨x10, ex10, hf⟩ := ob hf
      refine sp_gR (pc := 54) fl_RX7_24 dX7_merge_54 ex10 ?_
      refine sp_iload_n (pc := 57) dX7_merge_57 1 rfl ?_
      obtain ⟨y11, ey11, hf⟩ := ob hf
      obtain ⟨fsy11, hoy11⟩ := o_X3_mergeRuns ey11
      refine sp_callVi (pc := 58) (z := M_X3_mergeRuns) (As := [.int v1]) (b := x10) (bc2 := bc) (bs2 := bs) (m_X3_mergeRuns (Q := _) (fun sz => ⟨y11.1, rfl, ?_⟩) ey11) rfl dX7_merge_58 hoy11 rfl rfl ck_X7_merge_242 (Nat.le_of_ble_eq_true rfl) rfl rfl rfl
      obtain rfl := Option.some.inj hf
      exact sp_ireturn (pc := 61) dX7_merge_61 rfl rfl (hQ _)
    · rw [if_pos c6] at hf
      obtain rfl := Option.some.inj hf
      exact absurd rfl (hno _)
  · rw [if_pos c3] at hf
    obtain rfl := Option.some.inj hf
    exact absurd rfl (hno _)

theorem o_X7_merge {h : HP} {v0 : Nat} {v1 : Int32} {res : (Int32 ⊕ String) × HP} (hf : f_X7_merge h v0 v1 = some res) : ∃ fs, h v0 = some (.inr (7, fs)) := by
  obtain ⟨u, eu, -⟩ := ob hf
  exact kO_spec eu

theorem m_X7_merge {l : Launch} {Q : PST} {h : HP} {v0 : Nat} {v1 : Int32} {sz : Nat} {res : (Int32 ⊕ String) × HP} (hQ : ∀ sz', Q (outT res.1) res.2 sz') (hno : ∀ E, res.1 ≠ .inr E) (hf : f_X7_merge h v0 v1 = some res) : MM l M_X7_merge [.ref v0, .int v1] h sz Q := by
  obtain ⟨u, eu, hf⟩ := ob hf
  exact MM_of wok_X7_merge (by decide +kernel) (Nat.le_of_ble_eq_true rfl) ((w_X7_merge_0 hQ hno hf))

theorem dX7_undo_0 : decode (mB M_X7_undo) 0 = .ok (.aload_n 0, 1) := by decide +kernel
theorem dX7_undo_1 : decode (mB M_X7_undo) 1 = .ok (.getfield 36, 3) := by decide +kernel
theorem dX7_undo_4 : decode (mB M_X7_undo) 4 = .ok (.invokevirtual 245, 3) := by decide +kernel
theorem dX7_undo_7 : decode (mB M_X7_undo) 7 = .ok (.ifCond .ne 13, 3) := by decide +kernel
theorem dX7_undo_10 : decode (mB M_X7_undo) 10 = .ok (.new 66, 3) := by decide +kernel
theorem dX7_undo_13 : decode (mB M_X7_undo) 13 = .ok (.dup, 1) := by decide +kernel
theorem dX7_undo_14 : decode (mB M_X7_undo) 14 = .ok (.ldc 246, 2) := by decide +kernel
theorem dX7_undo_16 : decode (mB M_X7_undo) 16 = .ok (.invokespecial 70, 3) := by decide +kernel
theorem dX7_undo_19 : decode (mB M_X7_undo) 19 = .ok (.athrow, 1) := by decide +kernel
theorem dX7_undo_20 : decode (mB M_X7_undo) 20 = .ok (.aload_n 0, 1) := by decide +kernel
theorem dX7_undo_21 : decode (mB M_X7_undo) 21 = .ok (.getfield 36, 3) := by decide +kernel
theorem dX7_undo_24 : decode (mB M_X7_undo) 24 = .ok (.aload_n 0, 1) := by decide +kernel
theorem dX7_undo_25 : decode (mB M_X7_undo) 25 = .ok (.getfield 24, 3) := by decide +kernel
theorem dX7_undo_28 : decode (mB M_X7_undo) 28 = .ok (.invokevirtual 248, 3) := by decide +kernel
theorem dX7_undo_31 : decode (mB M_X7_undo) 31 = .ok (.aload_n 0, 1) := by decide +kernel
theorem dX7_undo_32 : decode (mB M_X7_undo) 32 = .ok (.getfield 36, 3) := by decide +kernel
theorem dX7_undo_35 : decode (mB M_X7_undo) 35 = .ok (.invokevirtual 245, 3) := by decide +kernel
theorem dX7_undo_38 : decode (mB M_X7_undo) 38 = .ok (.ireturn, 1) := by decide +kernel
def b_X7_undo_0 (v0 : Nat) (h : HP) : Option ((Int32 ⊕ String) × HP) :=
  (gR 7 3 h v0).bind fun x1 => (f_X1_size h x1).bind fun y2 => if y2 = 0 then some (.inr "java/lang/IllegalStateException", h) else (gR 7 3 h v0).bind fun x4 => (gR 7 1 h v0).bind fun x5 => (f_X1_takeBack h x4 x5).bind fun y6 => (gR 7 3 y6 v0).bind fun x7 => (f_X1_size y6 x7).bind fun y8 => some (.inl y8, y6)
def f_X7_undo (h : HP) (v0 : Nat) : Option ((Int32 ⊕ String) × HP) := (kO 7 h v0).bind fun _ => b_X7_undo_0 v0 h
theorem w_X7_undo_0 {l : Launch} {X : SCR} {Q : PST} {bc bs : Nat} {res : (Int32 ⊕ String) × HP} {h : HP} (hQ : ∀ sz', Q (outT res.1) res.2 sz') (hno : ∀ E, res.1 ≠ .inr E) {v0 : Nat} {sz : Nat} (hf : b_X7_undo_0 v0 h  = some res) : SP l X M_X7_undo 0 [(0, .ref v0)] [] h sz bc bs Q := by
  rw [b_X7_undo_0] at hf
  refine sp_aload_n (pc := 0) dX7_undo_0 0 rfl ?_
  obtain ⟨x1, ex1, hf⟩ := ob hf
  refine sp_gR (pc := 1) fl_RX7_36 dX7_undo_1 ex1 ?_
  obtain ⟨y2, ey2, hf⟩ := ob hf
  obtain ⟨fsy2, hoy2⟩ := o_X1_size ey2
  refine sp_callVi (pc := 4) (z := M_X1_size) (As := []) (b := x1) (bc2 := bc) (bs2 := bs) (m_X1_size (Q := _) (fun sz => ⟨y2, rfl, ?_⟩) ey2) rfl dX7_undo_4 hoy2 rfl rfl ck_X7_undo_245 (Nat.le_of_ble_eq_true rfl) rfl rfl rfl
  refine sp_if_ne (pc := 7) (tgt := 20) dX7_undo_7 (by decide) (fun c3 => ?_) (fun c3 => ?_)
  · rw [if_neg c3] at hf
    refine sp_aload_n (pc := 20) dX7_undo_20 0 rfl ?_
    obtain ⟨x4, ex4, hf⟩ := ob hf
    refine sp_gR (pc := 21) fl_RX7_36 dX7_undo_21 ex4 ?_
    refine sp_aload_n (pc := 24) dX7_undo_24 0 rfl ?_
    obtain ⟨x5, ex5, hf⟩ := ob hf
    refine sp_gR (pc := 25) fl_RX7_24 dX7_undo_25 ex5 ?_
    obtain ⟨y6, ey6, hf⟩ := ob hf
    obtain ⟨fsy6, hoy6⟩ := o_X1_takeBack ey6
    refine sp_callVv (pc := 28) (z := M_X1_takeBack) (As := [.ref x5]) (b := x4) (bc2 := bc) (bs2 := bs) (m_X1_takeBack (Q := _) (fun sz => ⟨(), rfl, ?_⟩) ey6) rfl dX7_undo_28 hoy6 rfl rfl ck_X7_undo_248 (Nat.le_of_ble_eq_true rfl) rfl rfl rfl
    refine sp_aload_n (pc := 31) dX7_undo_31 0 rfl ?_
    obtain ⟨x7, ex7, hf⟩ := ob hf
    refine sp_gR (pc := 32) fl_RX7_36 dX7_undo_32 ex7 ?_
    obtain ⟨y8, ey8, hf⟩ := ob hf
    obtain ⟨fsy8, hoy8⟩ := o_X1_size ey8
    refine sp_callVi (pc := 35) (z := M_X1_size) (As := []) (b := x7) (bc2 := bc) (bs2 := bs) (m_X1_size (Q := _) (fun sz => ⟨y8, rfl, ?_⟩) ey8) rfl dX7_undo_35 hoy8 rfl rfl ck_X7_undo_245 (Nat.le_of_ble_eq_true rfl) rfl rfl rfl
    obtain rfl := Option.some.inj hf
    exact sp_ireturn (pc := 38) dX7_undo_38 rfl rfl (hQ _)
  · rw [if_pos c3] at hf
    obtain rfl := Option.some.inj hf
    exact absurd rfl (hno _)

theorem o_X7_undo {h : HP} {v0 : Nat} {res : (Int32 ⊕ String) × HP} (hf : f_X7_undo h v0 = some res) : ∃ fs, h v0 = some (.inr (7, fs)) := by
  obtain ⟨u, eu, -⟩ := ob hf
  exact kO_spec eu

theorem m_X7_undo {l : Launch} {Q : PST} {h : HP} {v0 : Nat} {sz : Nat} {res : (Int32 ⊕ String) × HP} (hQ : ∀ sz', Q (outT res.1) res.2 sz') (hno : ∀ E, res.1 ≠ .inr E) (hf : f_X7_undo h v0 = some res) : MM l M_X7_undo [.ref v0] h sz Q := by
  obtain ⟨u, eu, hf⟩ := ob hf
  exact MM_of wok_X7_undo (by decide +kernel) (Nat.le_of_ble_eq_true rfl) ((w_X7_undo_0 hQ hno hf))

theorem dX7_looks_0 : decode (mB M_X7_looks) 0 = .ok (.iload_n 1, 1) := by decide +kernel
theorem dX7_looks_1 : decode (mB M_X7_looks) 1 = .ok (.invokestatic 134, 3) := by decide +kernel
theorem dX7_looks_4 : decode (mB M_X7_looks) 4 = .ok (.ifCond .ne 13, 3) := by decide +kernel
theorem dX7_looks_7 : decode (mB M_X7_looks) 7 = .ok (.new 140, 3) := by decide +kernel
theorem dX7_looks_10 : decode (mB M_X7_looks) 10 = .ok (.dup, 1) := by decide +kernel
theorem dX7_looks_11 : decode (mB M_X7_looks) 11 = .ok (.ldc 192, 2) := by decide +kernel
theorem dX7_looks_13 : decode (mB M_X7_looks) 13 = .ok (.invokespecial 144, 3) := by decide +kernel
theorem dX7_looks_16 : decode (mB M_X7_looks) 16 = .ok (.athrow, 1) := by decide +kernel
theorem dX7_looks_17 : decode (mB M_X7_looks) 17 = .ok (.aload_n 0, 1) := by decide +kernel
theorem dX7_looks_18 : decode (mB M_X7_looks) 18 = .ok (.getfield 24, 3) := by decide +kernel
theorem dX7_looks_21 : decode (mB M_X7_looks) 21 = .ok (.iload_n 1, 1) := by decide +kernel
theorem dX7_looks_22 : decode (mB M_X7_looks) 22 = .ok (.aload_n 0, 1) := by decide +kernel
theorem dX7_looks_23 : decode (mB M_X7_looks) 23 = .ok (.getfield 24, 3) := by decide +kernel
theorem dX7_looks_26 : decode (mB M_X7_looks) 26 = .ok (.invokevirtual 98, 3) := by decide +kernel
theorem dX7_looks_29 : decode (mB M_X7_looks) 29 = .ok (.invokevirtual 251, 3) := by decide +kernel
theorem dX7_looks_32 : decode (mB M_X7_looks) 32 = .ok (.istore_n 2, 1) := by decide +kernel
theorem dX7_looks_33 : decode (mB M_X7_looks) 33 = .ok (.iconst 0, 1) := by decide +kernel
theorem dX7_looks_34 : decode (mB M_X7_looks) 34 = .ok (.istore_n 3, 1) := by decide +kernel
theorem dX7_looks_35 : decode (mB M_X7_looks) 35 = .ok (.iconst (-1), 1) := by decide +kernel
theorem dX7_looks_36 : decode (mB M_X7_looks) 36 = .ok (.istore 4, 2) := by decide +kernel
theorem dX7_looks_38 : decode (mB M_X7_looks) 38 = .ok (.iload 4, 2) := by decide +kernel
theorem dX7_looks_40 : decode (mB M_X7_looks) 40 = .ok (.aload_n 0, 1) := by decide +kernel
theorem dX7_looks_41 : decode (mB M_X7_looks) 41 = .ok (.getfield 24, 3) := by decide +kernel
theorem dX7_looks_44 : decode (mB M_X7_looks) 44 = .ok (.invokevirtual 105, 3) := by decide +kernel
theorem dX7_looks_47 : decode (mB M_X7_looks) 47 = .ok (.if_icmp .ge 44, 3) := by decide +kernel
theorem dX7_looks_50 : decode (mB M_X7_looks) 50 = .ok (.aload_n 0, 1) := by decide +kernel
theorem dX7_looks_51 : decode (mB M_X7_looks) 51 = .ok (.getfield 24, 3) := by decide +kernel
theorem dX7_looks_54 : decode (mB M_X7_looks) 54 = .ok (.iload 4, 2) := by decide +kernel
theorem dX7_looks_56 : decode (mB M_X7_looks) 56 = .ok (.invokevirtual 101, 3) := by decide +kernel
theorem dX7_looks_59 : decode (mB M_X7_looks) 59 = .ok (.ifCond .le 6, 3) := by decide +kernel
theorem dX7_looks_62 : decode (mB M_X7_looks) 62 = .ok (.iinc 3 1, 3) := by decide +kernel
theorem dX7_looks_65 : decode (mB M_X7_looks) 65 = .ok (.iload_n 2, 1) := by decide +kernel
theorem dX7_looks_66 : decode (mB M_X7_looks) 66 = .ok (.iconst (-1), 1) := by decide +kernel
theorem dX7_looks_67 : decode (mB M_X7_looks) 67 = .ok (.if_icmp .eq 18, 3) := by decide +kernel
theorem dX7_looks_70 : decode (mB M_X7_looks) 70 = .ok (.iload_n 2, 1) := by decide +kernel
theorem dX7_looks_71 : decode (mB M_X7_looks) 71 = .ok (.aload_n 0, 1) := by decide +kernel
theorem dX7_looks_72 : decode (mB M_X7_looks) 72 = .ok (.getfield 24, 3) := by decide +kernel
theorem dX7_looks_75 : decode (mB M_X7_looks) 75 = .ok (.iload 4, 2) := by decide +kernel
theorem dX7_looks_77 : decode (mB M_X7_looks) 77 = .ok (.invokevirtual 156, 3) := by decide +kernel
theorem dX7_looks_80 : decode (mB M_X7_looks) 80 = .ok (.if_icmp .lt 5, 3) := by decide +kernel
theorem dX7_looks_83 : decode (mB M_X7_looks) 83 = .ok (.iload_n 3, 1) := by decide +kernel
theorem dX7_looks_84 : decode (mB M_X7_looks) 84 = .ok (.ireturn, 1) := by decide +kernel
theorem dX7_looks_85 : decode (mB M_X7_looks) 85 = .ok (.iinc 4 1, 3) := by decide +kernel
theorem dX7_looks_88 : decode (mB M_X7_looks) 88 = .ok (.goto (-50), 3) := by decide +kernel
theorem dX7_looks_91 : decode (mB M_X7_looks) 91 = .ok (.iload_n 3, 1) := by decide +kernel
theorem dX7_looks_92 : decode (mB M_X7_looks) 92 = .ok (.ireturn, 1) := by decide +kernel
def b_X7_looks_65 (h : HP) (v0 : Nat) (k38 : Int32 → Int32 → Int32 → Option (Int32 ⊕ String)) (v2 : Int32) (v3 : Int32) (v4 : Int32) : Option (Int32 ⊕ String) :=
  if v2 = (-1) then k38 v2 v3 (v4 + 1) else (gR 7 1 h v0).bind fun x2 => (f_X3_startOf h x2 v4).bind fun y3 => if v2 < y3 then k38 v2 v3 (v4 + 1) else some (.inl v3)
def c_X7_looks_38 (h : HP) (v0 : Nat) (k38 : Int32 → Int32 → Int32 → Option (Int32 ⊕ String)) (v2 : Int32) (v3 : Int32) (v4 : Int32) : Option (Int32 ⊕ String) :=
  (gR 7 1 h v0).bind fun x1 => (f_X3_runs h x1).bind fun y2 => if y2 ≤ v4 then some (.inl v3) else (gR 7 1 h v0).bind fun x4 => (f_X3_sizeOf h x4 v4).bind fun y5 => if y5 ≤ 0 then b_X7_looks_65 h v0 k38 v2 v3 v4 else b_X7_looks_65 h v0 k38 v2 (v3 + 1) v4
def b_X7_looks_38 (h : HP) (v0 : Nat) : Nat → Int32 → Int32 → Int32 → Option (Int32 ⊕ String)
  | 0, _, _, _ => none
  | n + 1, v2, v3, v4 => c_X7_looks_38 h v0 (b_X7_looks_38 h v0 n) v2 v3 v4
def b_X7_looks_0 (h : HP) (v0 : Nat) (v1 : Int32) : Option (Int32 ⊕ String) :=
  (f_X7_isKey h v1).bind fun y1 => if y1 = 0 then some (.inr "java/lang/IndexOutOfBoundsException") else (gR 7 1 h v0).bind fun x3 => (gR 7 1 h v0).bind fun x4 => (f_X3_latest h x4).bind fun y5 => (f_X3_newestFor h x3 v1 y5).bind fun y6 => b_X7_looks_38 h v0 FU y6 0 ((-1))
def f_X7_looks (h : HP) (v0 : Nat) (v1 : Int32) : Option (Int32 ⊕ String) := (kO 7 h v0).bind fun _ => b_X7_looks_0 h v0 v1
theorem w_X7_looks_65 {l : Launch} {X : SCR} {Q : PST} {bc bs : Nat} {res : Int32 ⊕ String} {h : HP} (hQ : ∀ sz', Q (outT res) h sz') (hno : ∀ E, res ≠ .inr E) {v0 : Nat} {k38 : Int32 → Int32 → Int32 → Option (Int32 ⊕ String)} (hk38 : ∀ (v2 : Int32) (v3 : Int32) (v4 : Int32) (sz : Nat), k38 v2 v3 v4 = some res → SP l X M_X7_looks 38 [(0, .ref v0), (2, .int v2), (3, .int v3), (4, .int v4)] [] h sz bc bs Q) {v2 : Int32} {v3 : Int32} {v4 : Int32} {sz : Nat} (hf : b_X7_looks_65 h v0 k38 v2 v3 v4 = some res) : SP l X M_X7_looks 65 [(0, .ref v0), (2, .int v2), (3, .int v3), (4, .int v4)] [] h sz bc bs Q := by
  rw [b_X7_looks_65] at hf
  refine sp_iload_n (pc := 65) dX7_looks_65 1 rfl ?_
  refine sp_iconst (pc := 66) (v := (-1)) dX7_looks_66 (by decide) ?_
  refine sp_icmp_eq (pc := 67) (tgt := 85) dX7_looks_67 (by decide) (fun c1 => ?_) (fun c1 => ?_)
  · rw [if_pos c1] at hf
    refine sp_iinc (pc := 85) (v := v4 + 1) (lv' := [(4, .int (v4 + 1)), (0, .ref v0), (2, .int v2), (3, .int v3)]) dX7_looks_85 3 rfl rfl (by decide) rfl ?_
    refine sp_goto (pc := 88) (tgt := 38) dX7_looks_88 (by decide) ?_
    exact sp_sub [1, 2, 3, 0] rfl (hk38 _ _ _ _ hf)
  · rw [if_neg c1] at hf
    refine sp_iload_n (pc := 70) dX7_looks_70 1 rfl ?_
    refine sp_aload_n (pc := 71) dX7_looks_71 0 rfl ?_
    obtain ⟨x2, ex2, hf⟩ := ob hf
    refine sp_gR (pc := 72) fl_RX7_24 dX7_looks_72 ex2 ?_
    refine sp_iload (pc := 75) dX7_looks_75 3 rfl ?_
    obtain ⟨y3, ey3, hf⟩ := ob hf
    obtain ⟨fsy3, hoy3⟩ := o_X3_startOf ey3
    refine sp_callVi (pc := 77) (z := M_X3_startOf) (As := [.int v4]) (b := x2) (bc2 := bc) (bs2 := bs) (m_X3_startOf (Q := _) (fun sz => ⟨y3, rfl, ?_⟩) ey3) rfl dX7_looks_77 hoy3 rfl rfl ck_X7_looks_156 (Nat.le_of_ble_eq_true rfl) rfl rfl rfl
    refine sp_icmp_lt (pc := 80) (tgt := 85) dX7_looks_80 (by decide) (fun c4 => ?_) (fun c4 => ?_)
    · rw [if_pos c4] at hf
      refine sp_iinc (pc := 85) (v := v4 + 1) (lv' := [(4, .int (v4 + 1)), (0, .ref v0), (2, .int v2), (3, .int v3)]) dX7_looks_85 3 rfl rfl (by decide) rfl ?_
      refine sp_goto (pc := 88) (tgt := 38) dX7_looks_88 (by decide) ?_
      exact sp_sub [1, 2, 3, 0] rfl (hk38 _ _ _ _ hf)
    · rw [if_neg c4] at hf
      refine sp_iload_n (pc := 83) dX7_looks_83 2 rfl ?_
      obtain rfl := Option.some.inj hf
      exact sp_ireturn (pc := 84) dX7_looks_84 rfl rfl (hQ _)

theorem wc_X7_looks_38 {l : Launch} {X : SCR} {Q : PST} {bc bs : Nat} {res : Int32 ⊕ String} {h : HP} (hQ : ∀ sz', Q (outT res) h sz') (hno : ∀ E, res ≠ .inr E) {v0 : Nat} {k38 : Int32 → Int32 → Int32 → Option (Int32 ⊕ String)} (hk38 : ∀ (v2 : Int32) (v3 : Int32) (v4 : Int32) (sz : Nat), k38 v2 v3 v4 = some res → SP l X M_X7_looks 38 [(0, .ref v0), (2, .int v2), (3, .int v3), (4, .int v4)] [] h sz bc bs Q) {v2 : Int32} {v3 : Int32} {v4 : Int32} {sz : Nat} (hf : c_X7_looks_38 h v0 k38 v2 v3 v4 = some res) : SP l X M_X7_looks 38 [(0, .ref v0), (2, .int v2), (3, .int v3), (4, .int v4)] [] h sz bc bs Q := by
  rw [c_X7_looks_38] at hf
  refine sp_iload (pc := 38) dX7_looks_38 3 rfl ?_
  refine sp_aload_n (pc := 40) dX7_looks_40 0 rfl ?_
  obtain ⟨x1, ex1, hf⟩ := ob hf
  refine sp_gR (pc := 41) fl_RX7_24 dX7_looks_41 ex1 ?_
  obtain ⟨y2, ey2, hf⟩ := ob hf
  obtain ⟨fsy2, hoy2⟩ := o_X3_runs ey2
  refine sp_callVi (pc := 44) (z := M_X3_runs) (As := []) (b := x1) (bc2 := bc) (bs2 := bs) (m_X3_runs (Q := _) (fun sz => ⟨y2, rfl, ?_⟩) ey2) rfl dX7_looks_44 hoy2 rfl rfl ck_X7_looks_105 (Nat.le_of_ble_eq_true rfl) rfl rfl rfl
  refine sp_icmp_ge (pc := 47) (tgt := 91) dX7_looks_47 (by decide) (fun c3 => ?_) (fun c3 => ?_)
  · rw [if_pos c3] at hf
    refine sp_iload_n (pc := 91) dX7_looks_91 2 rfl ?_
    obtain rfl := Option.some.inj hf
    exact sp_ireturn (pc := 92) dX7_looks_92 rfl rfl (hQ _)
  · rw [if_neg c3] at hf
    refine sp_aload_n (pc := 50) dX7_looks_50 0 rfl ?_
    obtain ⟨x4, ex4, hf⟩ := ob hf
    refine sp_gR (pc := 51) fl_RX7_24 dX7_looks_51 ex4 ?_
    refine sp_iload (pc := 54) dX7_looks_54 3 rfl ?_
    obtain ⟨y5, ey5, hf⟩ := ob hf
    obtain ⟨fsy5, hoy5⟩ := o_X3_sizeOf ey5
    refine sp_callVi (pc := 56) (z := M_X3_sizeOf) (As := [.int v4]) (b := x4) (bc2 := bc) (bs2 := bs) (m_X3_sizeOf (Q := _) (fun sz => ⟨y5, rfl, ?_⟩) ey5) rfl dX7_looks_56 hoy5 rfl rfl ck_X7_looks_101 (Nat.le_of_ble_eq_true rfl) rfl rfl rfl
    refine sp_if_le (pc := 59) (tgt := 65) dX7_looks_59 (by decide) (fun c6 => ?_) (fun c6 => ?_)
    · rw [if_pos c6] at hf
      exact (w_X7_looks_65 hQ hno hk38 hf)
    · rw [if_neg c6] at hf
      refine sp_iinc (pc := 62) (v := v3 + 1) (lv' := [(3, .int (v3 + 1)), (0, .ref v0), (2, .int v2), (4, .int v4)]) dX7_looks_62 2 rfl rfl (by decide) rfl ?_
      exact sp_sub [1, 2, 0, 3] rfl (w_X7_looks_65 hQ hno hk38 hf)

theorem w_X7_looks_38 {l : Launch} {X : SCR} {Q : PST} {bc bs : Nat} {res : Int32 ⊕ String} {h : HP} (hQ : ∀ sz', Q (outT res) h sz') (hno : ∀ E, res ≠ .inr E) {v0 : Nat} : ∀ (n : Nat) {v2 : Int32} {v3 : Int32} {v4 : Int32} {sz : Nat}, b_X7_looks_38 h v0 n v2 v3 v4 = some res → SP l X M_X7_looks 38 [(0, .ref v0), (2, .int v2), (3, .int v3), (4, .int v4)] [] h sz bc bs Q := by
  intro n
  induction n with
  | zero =>
    intro v2 v3 v4 sz hf
    rw [b_X7_looks_38] at hf
    cases hf
  | succ n ih =>
    intro v2 v3 v4 sz hf
    rw [b_X7_looks_38] at hf
    exact wc_X7_looks_38 hQ hno (fun v2 v3 v4 sz hf => ih hf) hf

theorem w_X7_looks_0 {l : Launch} {X : SCR} {Q : PST} {bc bs : Nat} {res : Int32 ⊕ String} {h : HP} (hQ : ∀ sz', Q (outT res) h sz') (hno : ∀ E, res ≠ .inr E) {v0 : Nat} {v1 : Int32} {sz : Nat} (hf : b_X7_looks_0 h v0 v1  = some res) : SP l X M_X7_looks 0 [(0, .ref v0), (1, .int v1)] [] h sz bc bs Q := by
  rw [b_X7_looks_0] at hf
  refine sp_iload_n (pc := 0) dX7_looks_0 1 rfl ?_
  obtain ⟨y1, ey1, hf⟩ := ob hf
  refine sp_callSi (pc := 1) (z := M_X7_isKey) (As := [.int v1]) (bc2 := bc) (bs2 := bs) (m_X7_isKey (Q := _) (fun sz => ⟨y1, rfl, ?_⟩) ey1) rfl dX7_looks_1 rfl ck_X7_looks_134 (Nat.le_of_ble_eq_true rfl) rfl rfl rfl
  refine sp_if_ne (pc := 4) (tgt := 17) dX7_looks_4 (by decide) (fun c2 => ?_) (fun c2 => ?_)
  · rw [if_neg c2] at hf
    refine sp_aload_n (pc := 17) dX7_looks_17 0 rfl ?_
    obtain ⟨x3, ex3, hf⟩ := ob hf
    refine sp_gR (pc := 18) fl_RX7_24 dX7_looks_18 ex3 ?_
    refine sp_iload_n (pc := 21) dX7_looks_21 1 rfl ?_
    refine sp_aload_n (pc := 22) dX7_looks_22 0 rfl ?_
    obtain ⟨x4, ex4, hf⟩ := ob hf
    refine sp_gR (pc := 23) fl_RX7_24 dX7_looks_23 ex4 ?_
    obtain ⟨y5, ey5, hf⟩ := ob hf
    obtain ⟨fsy5, hoy5⟩ := o_X3_latest ey5
    refine sp_callVi (pc := 26) (z := M_X3_latest) (As := []) (b := x4) (bc2 := bc) (bs2 := bs) (m_X3_latest (Q := _) (fun sz => ⟨y5, rfl, ?_⟩) ey5) rfl dX7_looks_26 hoy5 rfl rfl ck_X7_looks_98 (Nat.le_of_ble_eq_true rfl) rfl rfl rfl
    obtain ⟨y6, ey6, hf⟩ := ob hf
    obtain ⟨fsy6, hoy6⟩ := o_X3_newestFor ey6
    refine sp_callVi (pc := 29) (z := M_X3_newestFor) (As := [.int v1, .int y5]) (b := x3) (bc2 := bc) (bs2 := bs) (m_X3_newestFor (Q := _) (fun sz => ⟨y6, rfl, ?_⟩) ey6) rfl dX7_looks_29 hoy6 rfl rfl ck_X7_looks_251 (Nat.le_of_ble_eq_true rfl) rfl rfl rfl
    refine sp_istore_n (pc := 32) (lv' := [(2, .int y6), (0, .ref v0), (1, .int v1)]) dX7_looks_32 (by decide) rfl ?_
    refine sp_iconst (pc := 33) (v := 0) dX7_looks_33 (by decide) ?_
    refine sp_istore_n (pc := 34) (lv' := [(3, .int 0), (2, .int y6), (0, .ref v0), (1, .int v1)]) dX7_looks_34 (by decide) rfl ?_
    refine sp_iconst (pc := 35) (v := (-1)) dX7_looks_35 (by decide) ?_
    refine sp_istore (pc := 36) (lv' := [(4, .int (-1)), (3, .int 0), (2, .int y6), (0, .ref v0), (1, .int v1)]) dX7_looks_36 (by decide) rfl ?_
    exact sp_sub [3, 2, 1, 0] rfl (w_X7_looks_38 hQ hno FU hf)
  · rw [if_pos c2] at hf
    obtain rfl := Option.some.inj hf
    exact absurd rfl (hno _)

theorem o_X7_looks {h : HP} {v0 : Nat} {v1 : Int32} {res : Int32 ⊕ String} (hf : f_X7_looks h v0 v1 = some res) : ∃ fs, h v0 = some (.inr (7, fs)) := by
  obtain ⟨u, eu, -⟩ := ob hf
  exact kO_spec eu

theorem m_X7_looks {l : Launch} {Q : PST} {h : HP} {v0 : Nat} {v1 : Int32} {sz : Nat} {res : Int32 ⊕ String} (hQ : ∀ sz', Q (outT res) h sz') (hno : ∀ E, res ≠ .inr E) (hf : f_X7_looks h v0 v1 = some res) : MM l M_X7_looks [.ref v0, .int v1] h sz Q := by
  obtain ⟨u, eu, hf⟩ := ob hf
  exact MM_of wok_X7_looks (by decide +kernel) (Nat.le_of_ble_eq_true rfl) ((w_X7_looks_0 hQ hno hf))

theorem dX7_next_0 : decode (mB M_X7_next) 0 = .ok (.iload_n 1, 1) := by decide +kernel
theorem dX7_next_1 : decode (mB M_X7_next) 1 = .ok (.invokestatic 134, 3) := by decide +kernel
theorem dX7_next_4 : decode (mB M_X7_next) 4 = .ok (.ifCond .eq 14, 3) := by decide +kernel
theorem dX7_next_7 : decode (mB M_X7_next) 7 = .ok (.aload_n 0, 1) := by decide +kernel
theorem dX7_next_8 : decode (mB M_X7_next) 8 = .ok (.getfield 24, 3) := by decide +kernel
theorem dX7_next_11 : decode (mB M_X7_next) 11 = .ok (.iload_n 2, 1) := by decide +kernel
theorem dX7_next_12 : decode (mB M_X7_next) 12 = .ok (.invokevirtual 137, 3) := by decide +kernel
theorem dX7_next_15 : decode (mB M_X7_next) 15 = .ok (.ifCond .ne 13, 3) := by decide +kernel
theorem dX7_next_18 : decode (mB M_X7_next) 18 = .ok (.new 140, 3) := by decide +kernel
theorem dX7_next_21 : decode (mB M_X7_next) 21 = .ok (.dup, 1) := by decide +kernel
theorem dX7_next_22 : decode (mB M_X7_next) 22 = .ok (.ldc 142, 2) := by decide +kernel
theorem dX7_next_24 : decode (mB M_X7_next) 24 = .ok (.invokespecial 144, 3) := by decide +kernel
theorem dX7_next_27 : decode (mB M_X7_next) 27 = .ok (.athrow, 1) := by decide +kernel
theorem dX7_next_28 : decode (mB M_X7_next) 28 = .ok (.aload_n 0, 1) := by decide +kernel
theorem dX7_next_29 : decode (mB M_X7_next) 29 = .ok (.getfield 51, 3) := by decide +kernel
theorem dX7_next_32 : decode (mB M_X7_next) 32 = .ok (.aload_n 0, 1) := by decide +kernel
theorem dX7_next_33 : decode (mB M_X7_next) 33 = .ok (.getfield 24, 3) := by decide +kernel
theorem dX7_next_36 : decode (mB M_X7_next) 36 = .ok (.aload_n 0, 1) := by decide +kernel
theorem dX7_next_37 : decode (mB M_X7_next) 37 = .ok (.getfield 24, 3) := by decide +kernel
theorem dX7_next_40 : decode (mB M_X7_next) 40 = .ok (.iload_n 2, 1) := by decide +kernel
theorem dX7_next_41 : decode (mB M_X7_next) 41 = .ok (.invokevirtual 145, 3) := by decide +kernel
theorem dX7_next_44 : decode (mB M_X7_next) 44 = .ok (.invokevirtual 122, 3) := by decide +kernel
theorem dX7_next_47 : decode (mB M_X7_next) 47 = .ok (.aload_n 0, 1) := by decide +kernel
theorem dX7_next_48 : decode (mB M_X7_next) 48 = .ok (.getfield 51, 3) := by decide +kernel
theorem dX7_next_51 : decode (mB M_X7_next) 51 = .ok (.iload_n 1, 1) := by decide +kernel
theorem dX7_next_52 : decode (mB M_X7_next) 52 = .ok (.invokevirtual 254, 3) := by decide +kernel
theorem dX7_next_55 : decode (mB M_X7_next) 55 = .ok (.ireturn, 1) := by decide +kernel
def b_X7_next_18 (h : HP) : Option ((Int32 ⊕ String) × HP) :=
  some (.inr "java/lang/IndexOutOfBoundsException", h)
def b_X7_next_0 (v0 : Nat) (v1 : Int32) (v2 : Int32) (h : HP) : Option ((Int32 ⊕ String) × HP) :=
  (f_X7_isKey h v1).bind fun y1 => if y1 = 0 then b_X7_next_18 h else (gR 7 1 h v0).bind fun x3 => (f_X3_isView h x3 v2).bind fun y4 => if y4 = 0 then b_X7_next_18 h else (gR 7 6 h v0).bind fun x6 => (gR 7 1 h v0).bind fun x7 => (gR 7 1 h v0).bind fun x8 => (f_X3_limitOf h x8 v2).bind fun y9 => (f_X5_look h x6 x7 y9).bind fun y10 => (gR 7 6 y10 v0).bind fun x11 => (f_X5_firstSeen y10 x11 v1).bind fun y12 => some (.inl y12, y10)
def f_X7_next (h : HP) (v0 : Nat) (v1 : Int32) (v2 : Int32) : Option ((Int32 ⊕ String) × HP) := (kO 7 h v0).bind fun _ => b_X7_next_0 v0 v1 v2 h
theorem w_X7_next_18 {l : Launch} {X : SCR} {Q : PST} {bc bs : Nat} {res : (Int32 ⊕ String) × HP} {h : HP} (hQ : ∀ sz', Q (outT res.1) res.2 sz') (hno : ∀ E, res.1 ≠ .inr E) {sz : Nat} (hf : b_X7_next_18 h  = some res) : SP l X M_X7_next 18 [] [] h sz bc bs Q := by
  rw [b_X7_next_18] at hf
  obtain rfl := Option.some.inj hf
  exact absurd rfl (hno _)

theorem w_X7_next_0 {l : Launch} {X : SCR} {Q : PST} {bc bs : Nat} {res : (Int32 ⊕ String) × HP} {h : HP} (hQ : ∀ sz', Q (outT res.1) res.2 sz') (hno : ∀ E, res.1 ≠ .inr E) {v0 : Nat} {v1 : Int32} {v2 : Int32} {sz : Nat} (hf : b_X7_next_0 v0 v1 v2 h  = some res) : SP l X M_X7_next 0 [(0, .ref v0), (1, .int v1), (2, .int v2)] [] h sz bc bs Q := by
  rw [b_X7_next_0] at hf
  refine sp_iload_n (pc := 0) dX7_next_0 1 rfl ?_
  obtain ⟨y1, ey1, hf⟩ := ob hf
  refine sp_callSi (pc := 1) (z := M_X7_isKey) (As := [.int v1]) (bc2 := bc) (bs2 := bs) (m_X7_isKey (Q := _) (fun sz => ⟨y1, rfl, ?_⟩) ey1) rfl dX7_next_1 rfl ck_X7_next_134 (Nat.le_of_ble_eq_true rfl) rfl rfl rfl
  refine sp_if_eq (pc := 4) (tgt := 18) dX7_next_4 (by decide) (fun c2 => ?_) (fun c2 => ?_)
  · rw [if_pos c2] at hf
    exact sp_sub [] rfl (w_X7_next_18 hQ hno hf)
  · rw [if_neg c2] at hf
    refine sp_aload_n (pc := 7) dX7_next_7 0 rfl ?_
    obtain ⟨x3, ex3, hf⟩ := ob hf
    refine sp_gR (pc := 8) fl_RX7_24 dX7_next_8 ex3 ?_
    refine sp_iload_n (pc := 11) dX7_next_11 2 rfl ?_
    obtain ⟨y4, ey4, hf⟩ := ob hf
    obtain ⟨fsy4, hoy4⟩ := o_X3_isView ey4
    refine sp_callVi (pc := 12) (z := M_X3_isView) (As := [.int v2]) (b := x3) (bc2 := bc) (bs2 := bs) (m_X3_isView (Q := _) (fun sz => ⟨y4, rfl, ?_⟩) ey4) rfl dX7_next_12 hoy4 rfl rfl ck_X7_next_137 (Nat.le_of_ble_eq_true rfl) rfl rfl rfl
    refine sp_if_ne (pc := 15) (tgt := 28) dX7_next_15 (by decide) (fun c5 => ?_) (fun c5 => ?_)
    · rw [if_neg c5] at hf
      refine sp_aload_n (pc := 28) dX7_next_28 0 rfl ?_
      obtain ⟨x6, ex6, hf⟩ := ob hf
      refine sp_gR (pc := 29) fl_RX7_51 dX7_next_29 ex6 ?_
      refine sp_aload_n (pc := 32) dX7_next_32 0 rfl ?_
      obtain ⟨x7, ex7, hf⟩ := ob hf
      refine sp_gR (pc := 33) fl_RX7_24 dX7_next_33 ex7 ?_
      refine sp_aload_n (pc := 36) dX7_next_36 0 rfl ?_
      obtain ⟨x8, ex8, hf⟩ := ob hf
      refine sp_gR (pc := 37) fl_RX7_24 dX7_next_37 ex8 ?_
      refine sp_iload_n (pc := 40) dX7_next_40 2 rfl ?_
      obtain ⟨y9, ey9, hf⟩ := ob hf
      obtain ⟨fsy9, hoy9⟩ := o_X3_limitOf ey9
      refine sp_callVi (pc := 41) (z := M_X3_limitOf) (As := [.int v2]) (b := x8) (bc2 := bc) (bs2 := bs) (m_X3_limitOf (Q := _) (fun sz => ⟨y9, rfl, ?_⟩) ey9) rfl dX7_next_41 hoy9 rfl rfl ck_X7_next_145 (Nat.le_of_ble_eq_true rfl) rfl rfl rfl
      obtain ⟨y10, ey10, hf⟩ := ob hf
      obtain ⟨fsy10, hoy10⟩ := o_X5_look ey10
      refine sp_callVv (pc := 44) (z := M_X5_look) (As := [.ref x7, .int y9]) (b := x6) (bc2 := bc) (bs2 := bs) (m_X5_look (Q := _) (fun sz => ⟨(), rfl, ?_⟩) ey10) rfl dX7_next_44 hoy10 rfl rfl ck_X7_next_122 (Nat.le_of_ble_eq_true rfl) rfl rfl rfl
      refine sp_aload_n (pc := 47) dX7_next_47 0 rfl ?_
      obtain ⟨x11, ex11, hf⟩ := ob hf
      refine sp_gR (pc := 48) fl_RX7_51 dX7_next_48 ex11 ?_
      refine sp_iload_n (pc := 51) dX7_next_51 1 rfl ?_
      obtain ⟨y12, ey12, hf⟩ := ob hf
      obtain ⟨fsy12, hoy12⟩ := o_X5_firstSeen ey12
      refine sp_callVi (pc := 52) (z := M_X5_firstSeen) (As := [.int v1]) (b := x11) (bc2 := bc) (bs2 := bs) (m_X5_firstSeen (Q := _) (fun sz => ⟨y12, rfl, ?_⟩) ey12) rfl dX7_next_52 hoy12 rfl rfl ck_X7_next_254 (Nat.le_of_ble_eq_true rfl) rfl rfl rfl
      obtain rfl := Option.some.inj hf
      exact sp_ireturn (pc := 55) dX7_next_55 rfl rfl (hQ _)
    · rw [if_pos c5] at hf
      exact sp_sub [] rfl (w_X7_next_18 hQ hno hf)

theorem o_X7_next {h : HP} {v0 : Nat} {v1 : Int32} {v2 : Int32} {res : (Int32 ⊕ String) × HP} (hf : f_X7_next h v0 v1 v2 = some res) : ∃ fs, h v0 = some (.inr (7, fs)) := by
  obtain ⟨u, eu, -⟩ := ob hf
  exact kO_spec eu

theorem m_X7_next {l : Launch} {Q : PST} {h : HP} {v0 : Nat} {v1 : Int32} {v2 : Int32} {sz : Nat} {res : (Int32 ⊕ String) × HP} (hQ : ∀ sz', Q (outT res.1) res.2 sz') (hno : ∀ E, res.1 ≠ .inr E) (hf : f_X7_next h v0 v1 v2 = some res) : MM l M_X7_next [.ref v0, .int v1, .int v2] h sz Q := by
  obtain ⟨u, eu, hf⟩ := ob hf
  exact MM_of wok_X7_next (by decide +kernel) (Nat.le_of_ble_eq_true rfl) ((w_X7_next_0 hQ hno hf))

theorem dX7_count_0 : decode (mB M_X7_count) 0 = .ok (.iload_n 1, 1) := by decide +kernel
theorem dX7_count_1 : decode (mB M_X7_count) 1 = .ok (.invokestatic 134, 3) := by decide +kernel
theorem dX7_count_4 : decode (mB M_X7_count) 4 = .ok (.ifCond .eq 21, 3) := by decide +kernel
theorem dX7_count_7 : decode (mB M_X7_count) 7 = .ok (.iload_n 2, 1) := by decide +kernel
theorem dX7_count_8 : decode (mB M_X7_count) 8 = .ok (.invokestatic 134, 3) := by decide +kernel
theorem dX7_count_11 : decode (mB M_X7_count) 11 = .ok (.ifCond .eq 14, 3) := by decide +kernel
theorem dX7_count_14 : decode (mB M_X7_count) 14 = .ok (.aload_n 0, 1) := by decide +kernel
theorem dX7_count_15 : decode (mB M_X7_count) 15 = .ok (.getfield 24, 3) := by decide +kernel
theorem dX7_count_18 : decode (mB M_X7_count) 18 = .ok (.iload_n 3, 1) := by decide +kernel
theorem dX7_count_19 : decode (mB M_X7_count) 19 = .ok (.invokevirtual 137, 3) := by decide +kernel
theorem dX7_count_22 : decode (mB M_X7_count) 22 = .ok (.ifCond .ne 13, 3) := by decide +kernel
theorem dX7_count_25 : decode (mB M_X7_count) 25 = .ok (.new 140, 3) := by decide +kernel
theorem dX7_count_28 : decode (mB M_X7_count) 28 = .ok (.dup, 1) := by decide +kernel
theorem dX7_count_29 : decode (mB M_X7_count) 29 = .ok (.ldc 142, 2) := by decide +kernel
theorem dX7_count_31 : decode (mB M_X7_count) 31 = .ok (.invokespecial 144, 3) := by decide +kernel
theorem dX7_count_34 : decode (mB M_X7_count) 34 = .ok (.athrow, 1) := by decide +kernel
theorem dX7_count_35 : decode (mB M_X7_count) 35 = .ok (.iload_n 2, 1) := by decide +kernel
theorem dX7_count_36 : decode (mB M_X7_count) 36 = .ok (.iload_n 1, 1) := by decide +kernel
theorem dX7_count_37 : decode (mB M_X7_count) 37 = .ok (.if_icmp .ge 13, 3) := by decide +kernel
theorem dX7_count_40 : decode (mB M_X7_count) 40 = .ok (.new 55, 3) := by decide +kernel
theorem dX7_count_43 : decode (mB M_X7_count) 43 = .ok (.dup, 1) := by decide +kernel
theorem dX7_count_44 : decode (mB M_X7_count) 44 = .ok (.ldc 210, 2) := by decide +kernel
theorem dX7_count_46 : decode (mB M_X7_count) 46 = .ok (.invokespecial 59, 3) := by decide +kernel
theorem dX7_count_49 : decode (mB M_X7_count) 49 = .ok (.athrow, 1) := by decide +kernel
theorem dX7_count_50 : decode (mB M_X7_count) 50 = .ok (.aload_n 0, 1) := by decide +kernel
theorem dX7_count_51 : decode (mB M_X7_count) 51 = .ok (.getfield 51, 3) := by decide +kernel
theorem dX7_count_54 : decode (mB M_X7_count) 54 = .ok (.aload_n 0, 1) := by decide +kernel
theorem dX7_count_55 : decode (mB M_X7_count) 55 = .ok (.getfield 24, 3) := by decide +kernel
theorem dX7_count_58 : decode (mB M_X7_count) 58 = .ok (.aload_n 0, 1) := by decide +kernel
theorem dX7_count_59 : decode (mB M_X7_count) 59 = .ok (.getfield 24, 3) := by decide +kernel
theorem dX7_count_62 : decode (mB M_X7_count) 62 = .ok (.iload_n 3, 1) := by decide +kernel
theorem dX7_count_63 : decode (mB M_X7_count) 63 = .ok (.invokevirtual 145, 3) := by decide +kernel
theorem dX7_count_66 : decode (mB M_X7_count) 66 = .ok (.invokevirtual 122, 3) := by decide +kernel
theorem dX7_count_69 : decode (mB M_X7_count) 69 = .ok (.aload_n 0, 1) := by decide +kernel
theorem dX7_count_70 : decode (mB M_X7_count) 70 = .ok (.getfield 51, 3) := by decide +kernel
theorem dX7_count_73 : decode (mB M_X7_count) 73 = .ok (.iload_n 1, 1) := by decide +kernel
theorem dX7_count_74 : decode (mB M_X7_count) 74 = .ok (.iload_n 2, 1) := by decide +kernel
theorem dX7_count_75 : decode (mB M_X7_count) 75 = .ok (.invokevirtual 212, 3) := by decide +kernel
theorem dX7_count_78 : decode (mB M_X7_count) 78 = .ok (.ireturn, 1) := by decide +kernel
def b_X7_count_25 (h : HP) : Option ((Int32 ⊕ String) × HP) :=
  some (.inr "java/lang/IndexOutOfBoundsException", h)
def b_X7_count_0 (v0 : Nat) (v1 : Int32) (v2 : Int32) (v3 : Int32) (h : HP) : Option ((Int32 ⊕ String) × HP) :=
  (f_X7_isKey h v1).bind fun y1 => if y1 = 0 then b_X7_count_25 h else (f_X7_isKey h v2).bind fun y3 => if y3 = 0 then b_X7_count_25 h else (gR 7 1 h v0).bind fun x5 => (f_X3_isView h x5 v3).bind fun y6 => if y6 = 0 then b_X7_count_25 h else if v1 ≤ v2 then (gR 7 6 h v0).bind fun x9 => (gR 7 1 h v0).bind fun x10 => (gR 7 1 h v0).bind fun x11 => (f_X3_limitOf h x11 v3).bind fun y12 => (f_X5_look h x9 x10 y12).bind fun y13 => (gR 7 6 y13 v0).bind fun x14 => (f_X5_seenIn y13 x14 v1 v2).bind fun y15 => some (.inl y15, y13) else some (.inr "java/lang/IllegalArgumentException", h)
def f_X7_count (h : HP) (v0 : Nat) (v1 : Int32) (v2 : Int32) (v3 : Int32) : Option ((Int32 ⊕ String) × HP) := (kO 7 h v0).bind fun _ => b_X7_count_0 v0 v1 v2 v3 h
theorem w_X7_count_25 {l : Launch} {X : SCR} {Q : PST} {bc bs : Nat} {res : (Int32 ⊕ String) × HP} {h : HP} (hQ : ∀ sz', Q (outT res.1) res.2 sz') (hno : ∀ E, res.1 ≠ .inr E) {sz : Nat} (hf : b_X7_count_25 h  = some res) : SP l X M_X7_count 25 [] [] h sz bc bs Q := by
  rw [b_X7_count_25] at hf
  obtain rfl := Option.some.inj hf
  exact absurd rfl (hno _)

theorem w_X7_count_0 {l : Launch} {X : SCR} {Q : PST} {bc bs : Nat} {res : (Int32 ⊕ String) × HP} {h : HP} (hQ : ∀ sz', Q (outT res.1) res.2 sz') (hno : ∀ E, res.1 ≠ .inr E) {v0 : Nat} {v1 : Int32} {v2 : Int32} {v3 : Int32} {sz : Nat} (hf : b_X7_count_0 v0 v1 v2 v3 h  = some res) : SP l X M_X7_count 0 [(0, .ref v0), (1, .int v1), (2, .int v2), (3, .int v3)] [] h sz bc bs Q := by
  rw [b_X7_count_0] at hf
  refine sp_iload_n (pc := 0) dX7_count_0 1 rfl ?_
  obtain ⟨y1, ey1, hf⟩ := ob hf
  refine sp_callSi (pc := 1) (z := M_X7_isKey) (As := [.int v1]) (bc2 := bc) (bs2 := bs) (m_X7_isKey (Q := _) (fun sz => ⟨y1, rfl, ?_⟩) ey1) rfl dX7_count_1 rfl ck_X7_count_134 (Nat.le_of_ble_eq_true rfl) rfl rfl rfl
  refine sp_if_eq (pc := 4) (tgt := 25) dX7_count_4 (by decide) (fun c2 => ?_) (fun c2 => ?_)
  · rw [if_pos c2] at hf
    exact sp_sub [] rfl (w_X7_count_25 hQ hno hf)
  · rw [if_neg c2] at hf
    refine sp_iload_n (pc := 7) dX7_count_7 2 rfl ?_
    obtain ⟨y3, ey3, hf⟩ := ob hf
    refine sp_callSi (pc := 8) (z := M_X7_isKey) (As := [.int v2]) (bc2 := bc) (bs2 := bs) (m_X7_isKey (Q := _) (fun sz => ⟨y3, rfl, ?_⟩) ey3) rfl dX7_count_8 rfl ck_X7_count_134 (Nat.le_of_ble_eq_true rfl) rfl rfl rfl
    refine sp_if_eq (pc := 11) (tgt := 25) dX7_count_11 (by decide) (fun c4 => ?_) (fun c4 => ?_)
    · rw [if_pos c4] at hf
      exact sp_sub [] rfl (w_X7_count_25 hQ hno hf)
    · rw [if_neg c4] at hf
      refine sp_aload_n (pc := 14) dX7_count_14 0 rfl ?_
      obtain ⟨x5, ex5, hf⟩ := ob hf
      refine sp_gR (pc := 15) fl_RX7_24 dX7_count_15 ex5 ?_
      refine sp_iload_n (pc := 18) dX7_count_18 3 rfl ?_
      obtain ⟨y6, ey6, hf⟩ := ob hf
      obtain ⟨fsy6, hoy6⟩ := o_X3_isView ey6
      refine sp_callVi (pc := 19) (z := M_X3_isView) (As := [.int v3]) (b := x5) (bc2 := bc) (bs2 := bs) (m_X3_isView (Q := _) (fun sz => ⟨y6, rfl, ?_⟩) ey6) rfl dX7_count_19 hoy6 rfl rfl ck_X7_count_137 (Nat.le_of_ble_eq_true rfl) rfl rfl rfl
      refine sp_if_ne (pc := 22) (tgt := 35) dX7_count_22 (by decide) (fun c7 => ?_) (fun c7 => ?_)
      · rw [if_neg c7] at hf
        refine sp_iload_n (pc := 35) dX7_count_35 2 rfl ?_
        refine sp_iload_n (pc := 36) dX7_count_36 1 rfl ?_
        refine sp_icmp_ge (pc := 37) (tgt := 50) dX7_count_37 (by decide) (fun c8 => ?_) (fun c8 => ?_)
        · rw [if_pos c8] at hf
          refine sp_aload_n (pc := 50) dX7_count_50 0 rfl ?_
          obtain ⟨x9, ex9, hf⟩ := ob hf
          refine sp_gR (pc := 51) fl_RX7_51 dX7_count_51 ex9 ?_
          refine sp_aload_n (pc := 54) dX7_count_54 0 rfl ?_
          obtain ⟨x10, ex10, hf⟩ := ob hf
          refine sp_gR (pc := 55) fl_RX7_24 dX7_count_55 ex10 ?_
          refine sp_aload_n (pc := 58) dX7_count_58 0 rfl ?_
          obtain ⟨x11, ex11, hf⟩ := ob hf
          refine sp_gR (pc := 59) fl_RX7_24 dX7_count_59 ex11 ?_
          refine sp_iload_n (pc := 62) dX7_count_62 3 rfl ?_
          obtain ⟨y12, ey12, hf⟩ := ob hf
          obtain ⟨fsy12, hoy12⟩ := o_X3_limitOf ey12
          refine sp_callVi (pc := 63) (z := M_X3_limitOf) (As := [.int v3]) (b := x11) (bc2 := bc) (bs2 := bs) (m_X3_limitOf (Q := _) (fun sz => ⟨y12, rfl, ?_⟩) ey12) rfl dX7_count_63 hoy12 rfl rfl ck_X7_count_145 (Nat.le_of_ble_eq_true rfl) rfl rfl rfl
          obtain ⟨y13, ey13, hf⟩ := ob hf
          obtain ⟨fsy13, hoy13⟩ := o_X5_look ey13
          refine sp_callVv (pc := 66) (z := M_X5_look) (As := [.ref x10, .int y12]) (b := x9) (bc2 := bc) (bs2 := bs) (m_X5_look (Q := _) (fun sz => ⟨(), rfl, ?_⟩) ey13) rfl dX7_count_66 hoy13 rfl rfl ck_X7_count_122 (Nat.le_of_ble_eq_true rfl) rfl rfl rfl
          refine sp_aload_n (pc := 69) dX7_count_69 0 rfl ?_
          obtain ⟨x14, ex14, hf⟩ := ob hf
          refine sp_gR (pc := 70) fl_RX7_51 dX7_count_70 ex14 ?_
          refine sp_iload_n (pc := 73) dX7_count_73 1 rfl ?_
          refine sp_iload_n (pc := 74) dX7_count_74 2 rfl ?_
          obtain ⟨y15, ey15, hf⟩ := ob hf
          obtain ⟨fsy15, hoy15⟩ := o_X5_seenIn ey15
          refine sp_callVi (pc := 75) (z := M_X5_seenIn) (As := [.int v1, .int v2]) (b := x14) (bc2 := bc) (bs2 := bs) (m_X5_seenIn (Q := _) (fun sz => ⟨y15, rfl, ?_⟩) ey15) rfl dX7_count_75 hoy15 rfl rfl ck_X7_count_212 (Nat.le_of_ble_eq_true rfl) rfl rfl rfl
          obtain rfl := Option.some.inj hf
          exact sp_ireturn (pc := 78) dX7_count_78 rfl rfl (hQ _)
        · rw [if_neg c8] at hf
          obtain rfl := Option.some.inj hf
          exact absurd rfl (hno _)
      · rw [if_pos c7] at hf
        exact sp_sub [] rfl (w_X7_count_25 hQ hno hf)

theorem o_X7_count {h : HP} {v0 : Nat} {v1 : Int32} {v2 : Int32} {v3 : Int32} {res : (Int32 ⊕ String) × HP} (hf : f_X7_count h v0 v1 v2 v3 = some res) : ∃ fs, h v0 = some (.inr (7, fs)) := by
  obtain ⟨u, eu, -⟩ := ob hf
  exact kO_spec eu

theorem m_X7_count {l : Launch} {Q : PST} {h : HP} {v0 : Nat} {v1 : Int32} {v2 : Int32} {v3 : Int32} {sz : Nat} {res : (Int32 ⊕ String) × HP} (hQ : ∀ sz', Q (outT res.1) res.2 sz') (hno : ∀ E, res.1 ≠ .inr E) (hf : f_X7_count h v0 v1 v2 v3 = some res) : MM l M_X7_count [.ref v0, .int v1, .int v2, .int v3] h sz Q := by
  obtain ⟨u, eu, hf⟩ := ob hf
  exact MM_of wok_X7_count (by decide +kernel) (Nat.le_of_ble_eq_true rfl) ((w_X7_count_0 hQ hno hf))

theorem dX7_hidden_0 : decode (mB M_X7_hidden) 0 = .ok (.iconst 0, 1) := by decide +kernel
theorem dX7_hidden_1 : decode (mB M_X7_hidden) 1 = .ok (.istore_n 1, 1) := by decide +kernel
theorem dX7_hidden_2 : decode (mB M_X7_hidden) 2 = .ok (.iconst 0, 1) := by decide +kernel
theorem dX7_hidden_3 : decode (mB M_X7_hidden) 3 = .ok (.istore_n 2, 1) := by decide +kernel
theorem dX7_hidden_4 : decode (mB M_X7_hidden) 4 = .ok (.iload_n 2, 1) := by decide +kernel
theorem dX7_hidden_5 : decode (mB M_X7_hidden) 5 = .ok (.aload_n 0, 1) := by decide +kernel
theorem dX7_hidden_6 : decode (mB M_X7_hidden) 6 = .ok (.getfield 24, 3) := by decide +kernel
theorem dX7_hidden_9 : decode (mB M_X7_hidden) 9 = .ok (.invokevirtual 111, 3) := by decide +kernel
theorem dX7_hidden_12 : decode (mB M_X7_hidden) 12 = .ok (.if_icmp .ge 37, 3) := by decide +kernel
theorem dX7_hidden_15 : decode (mB M_X7_hidden) 15 = .ok (.aload_n 0, 1) := by decide +kernel
theorem dX7_hidden_16 : decode (mB M_X7_hidden) 16 = .ok (.getfield 24, 3) := by decide +kernel
theorem dX7_hidden_19 : decode (mB M_X7_hidden) 19 = .ok (.getfield 162, 3) := by decide +kernel
theorem dX7_hidden_22 : decode (mB M_X7_hidden) 22 = .ok (.iload_n 2, 1) := by decide +kernel
theorem dX7_hidden_23 : decode (mB M_X7_hidden) 23 = .ok (.invokevirtual 257, 3) := by decide +kernel
theorem dX7_hidden_26 : decode (mB M_X7_hidden) 26 = .ok (.ifCond .eq 17, 3) := by decide +kernel
theorem dX7_hidden_29 : decode (mB M_X7_hidden) 29 = .ok (.aload_n 0, 1) := by decide +kernel
theorem dX7_hidden_30 : decode (mB M_X7_hidden) 30 = .ok (.getfield 24, 3) := by decide +kernel
theorem dX7_hidden_33 : decode (mB M_X7_hidden) 33 = .ok (.iload_n 2, 1) := by decide +kernel
theorem dX7_hidden_34 : decode (mB M_X7_hidden) 34 = .ok (.invokevirtual 260, 3) := by decide +kernel
theorem dX7_hidden_37 : decode (mB M_X7_hidden) 37 = .ok (.ifCond .ne 6, 3) := by decide +kernel
theorem dX7_hidden_40 : decode (mB M_X7_hidden) 40 = .ok (.iinc 1 1, 3) := by decide +kernel
theorem dX7_hidden_43 : decode (mB M_X7_hidden) 43 = .ok (.iinc 2 1, 3) := by decide +kernel
theorem dX7_hidden_46 : decode (mB M_X7_hidden) 46 = .ok (.goto (-42), 3) := by decide +kernel
theorem dX7_hidden_49 : decode (mB M_X7_hidden) 49 = .ok (.iload_n 1, 1) := by decide +kernel
theorem dX7_hidden_50 : decode (mB M_X7_hidden) 50 = .ok (.ireturn, 1) := by decide +kernel
def c_X7_hidden_4 (h : HP) (v0 : Nat) (k4 : Int32 → Int32 → Option (Int32)) (v1 : Int32) (v2 : Int32) : Option (Int32) :=
  (gR 7 1 h v0).bind fun x1 => (f_X3_size h x1).bind fun y2 => if y2 ≤ v2 then some (v1) else (gR 7 1 h v0).bind fun x4 => (gR 3 1 h x4).bind fun x5 => (f_X6_isEntry h x5 v2).bind fun y6 => if y6 = 0 then k4 v1 (v2 + 1) else (gR 7 1 h v0).bind fun x8 => (f_X3_isSeen h x8 v2).bind fun y9 => if y9 = 0 then k4 (v1 + 1) (v2 + 1) else k4 v1 (v2 + 1)
def b_X7_hidden_4 (h : HP) (v0 : Nat) : Nat → Int32 → Int32 → Option (Int32)
  | 0, _, _ => none
  | n + 1, v1, v2 => c_X7_hidden_4 h v0 (b_X7_hidden_4 h v0 n) v1 v2
def b_X7_hidden_0 (h : HP) (v0 : Nat) : Option (Int32) :=
  b_X7_hidden_4 h v0 FU 0 0
def f_X7_hidden (h : HP) (v0 : Nat) : Option (Int32) := (kO 7 h v0).bind fun _ => b_X7_hidden_0 h v0
theorem wc_X7_hidden_4 {l : Launch} {X : SCR} {Q : PST} {bc bs : Nat} {res : Int32} {h : HP} (hQ : ∀ sz', Q (.inl (some (.int res))) h sz') {v0 : Nat} {k4 : Int32 → Int32 → Option (Int32)} (hk4 : ∀ (v1 : Int32) (v2 : Int32) (sz : Nat), k4 v1 v2 = some res → SP l X M_X7_hidden 4 [(0, .ref v0), (1, .int v1), (2, .int v2)] [] h sz bc bs Q) {v1 : Int32} {v2 : Int32} {sz : Nat} (hf : c_X7_hidden_4 h v0 k4 v1 v2 = some res) : SP l X M_X7_hidden 4 [(0, .ref v0), (1, .int v1), (2, .int v2)] [] h sz bc bs Q := by
  rw [c_X7_hidden_4] at hf
  refine sp_iload_n (pc := 4) dX7_hidden_4 2 rfl ?_
  refine sp_aload_n (pc := 5) dX7_hidden_5 0 rfl ?_
  obtain ⟨x1, ex1, hf⟩ := ob hf
  refine sp_gR (pc := 6) fl_RX7_24 dX7_hidden_6 ex1 ?_
  obtain ⟨y2, ey2, hf⟩ := ob hf
  obtain ⟨fsy2, hoy2⟩ := o_X3_size ey2
  refine sp_callVi (pc := 9) (z := M_X3_size) (As := []) (b := x1) (bc2 := bc) (bs2 := bs) (m_X3_size (Q := _) (fun sz => ⟨y2, rfl, ?_⟩) ey2) rfl dX7_hidden_9 hoy2 rfl rfl ck_X7_hidden_111 (Nat.le_of_ble_eq_true rfl) rfl rfl rfl
  refine sp_icmp_ge (pc := 12) (tgt := 49) dX7_hidden_12 (by decide) (fun c3 => ?_) (fun c3 => ?_)
  · rw [if_pos c3] at hf
    refine sp_iload_n (pc := 49) dX7_hidden_49 1 rfl ?_
    obtain rfl := Option.some.inj hf
    exact sp_ireturn (pc := 50) dX7_hidden_50 rfl rfl (hQ _)
  · rw [if_neg c3] at hf
    refine sp_aload_n (pc := 15) dX7_hidden_15 0 rfl ?_
    obtain ⟨x4, ex4, hf⟩ := ob hf
    refine sp_gR (pc := 16) fl_RX7_24 dX7_hidden_16 ex4 ?_
    obtain ⟨x5, ex5, hf⟩ := ob hf
    refine sp_gR (pc := 19) fl_RX7_162 dX7_hidden_19 ex5 ?_
    refine sp_iload_n (pc := 22) dX7_hidden_22 2 rfl ?_
    obtain ⟨y6, ey6, hf⟩ := ob hf
    obtain ⟨fsy6, hoy6⟩ := o_X6_isEntry ey6
    refine sp_callVi (pc := 23) (z := M_X6_isEntry) (As := [.int v2]) (b := x5) (bc2 := bc) (bs2 := bs) (m_X6_isEntry (Q := _) (fun sz => ⟨y6, rfl, ?_⟩) ey6) rfl dX7_hidden_23 hoy6 rfl rfl ck_X7_hidden_257 (Nat.le_of_ble_eq_true rfl) rfl rfl rfl
    refine sp_if_eq (pc := 26) (tgt := 43) dX7_hidden_26 (by decide) (fun c7 => ?_) (fun c7 => ?_)
    · rw [if_pos c7] at hf
      refine sp_iinc (pc := 43) (v := v2 + 1) (lv' := [(2, .int (v2 + 1)), (0, .ref v0), (1, .int v1)]) dX7_hidden_43 2 rfl rfl (by decide) rfl ?_
      refine sp_goto (pc := 46) (tgt := 4) dX7_hidden_46 (by decide) ?_
      exact sp_sub [1, 2, 0] rfl (hk4 _ _ _ hf)
    · rw [if_neg c7] at hf
      refine sp_aload_n (pc := 29) dX7_hidden_29 0 rfl ?_
      obtain ⟨x8, ex8, hf⟩ := ob hf
      refine sp_gR (pc := 30) fl_RX7_24 dX7_hidden_30 ex8 ?_
      refine sp_iload_n (pc := 33) dX7_hidden_33 2 rfl ?_
      obtain ⟨y9, ey9, hf⟩ := ob hf
      obtain ⟨fsy9, hoy9⟩ := o_X3_isSeen ey9
      refine sp_callVi (pc := 34) (z := M_X3_isSeen) (As := [.int v2]) (b := x8) (bc2 := bc) (bs2 := bs) (m_X3_isSeen (Q := _) (fun sz => ⟨y9, rfl, ?_⟩) ey9) rfl dX7_hidden_34 hoy9 rfl rfl ck_X7_hidden_260 (Nat.le_of_ble_eq_true rfl) rfl rfl rfl
      refine sp_if_ne (pc := 37) (tgt := 43) dX7_hidden_37 (by decide) (fun c10 => ?_) (fun c10 => ?_)
      · rw [if_neg c10] at hf
        refine sp_iinc (pc := 43) (v := v2 + 1) (lv' := [(2, .int (v2 + 1)), (0, .ref v0), (1, .int v1)]) dX7_hidden_43 2 rfl rfl (by decide) rfl ?_
        refine sp_goto (pc := 46) (tgt := 4) dX7_hidden_46 (by decide) ?_
        exact sp_sub [1, 2, 0] rfl (hk4 _ _ _ hf)
      · rw [if_pos c10] at hf
        refine sp_iinc (pc := 40) (v := v1 + 1) (lv' := [(1, .int (v1 + 1)), (0, .ref v0), (2, .int v2)]) dX7_hidden_40 1 rfl rfl (by decide) rfl ?_
        refine sp_iinc (pc := 43) (v := v2 + 1) (lv' := [(2, .int (v2 + 1)), (1, .int (v1 + 1)), (0, .ref v0)]) dX7_hidden_43 2 rfl rfl (by decide) rfl ?_
        refine sp_goto (pc := 46) (tgt := 4) dX7_hidden_46 (by decide) ?_
        exact sp_sub [2, 1, 0] rfl (hk4 _ _ _ hf)

theorem w_X7_hidden_4 {l : Launch} {X : SCR} {Q : PST} {bc bs : Nat} {res : Int32} {h : HP} (hQ : ∀ sz', Q (.inl (some (.int res))) h sz') {v0 : Nat} : ∀ (n : Nat) {v1 : Int32} {v2 : Int32} {sz : Nat}, b_X7_hidden_4 h v0 n v1 v2 = some res → SP l X M_X7_hidden 4 [(0, .ref v0), (1, .int v1), (2, .int v2)] [] h sz bc bs Q := by
  intro n
  induction n with
  | zero =>
    intro v1 v2 sz hf
    rw [b_X7_hidden_4] at hf
    cases hf
  | succ n ih =>
    intro v1 v2 sz hf
    rw [b_X7_hidden_4] at hf
    exact wc_X7_hidden_4 hQ (fun v1 v2 sz hf => ih hf) hf

theorem w_X7_hidden_0 {l : Launch} {X : SCR} {Q : PST} {bc bs : Nat} {res : Int32} {h : HP} (hQ : ∀ sz', Q (.inl (some (.int res))) h sz') {v0 : Nat} {sz : Nat} (hf : b_X7_hidden_0 h v0  = some res) : SP l X M_X7_hidden 0 [(0, .ref v0)] [] h sz bc bs Q := by
  rw [b_X7_hidden_0] at hf
  refine sp_iconst (pc := 0) (v := 0) dX7_hidden_0 (by decide) ?_
  refine sp_istore_n (pc := 1) (lv' := [(1, .int 0), (0, .ref v0)]) dX7_hidden_1 (by decide) rfl ?_
  refine sp_iconst (pc := 2) (v := 0) dX7_hidden_2 (by decide) ?_
  refine sp_istore_n (pc := 3) (lv' := [(2, .int 0), (1, .int 0), (0, .ref v0)]) dX7_hidden_3 (by decide) rfl ?_
  exact sp_sub [2, 1, 0] rfl (w_X7_hidden_4 hQ FU hf)

theorem o_X7_hidden {h : HP} {v0 : Nat} {res : Int32} (hf : f_X7_hidden h v0 = some res) : ∃ fs, h v0 = some (.inr (7, fs)) := by
  obtain ⟨u, eu, -⟩ := ob hf
  exact kO_spec eu

theorem m_X7_hidden {l : Launch} {Q : PST} {h : HP} {v0 : Nat} {sz : Nat} {res : Int32} (hQ : ∀ sz', Q (.inl (some (.int res))) h sz') (hf : f_X7_hidden h v0 = some res) : MM l M_X7_hidden [.ref v0] h sz Q := by
  obtain ⟨u, eu, hf⟩ := ob hf
  exact MM_of wok_X7_hidden (by decide +kernel) (Nat.le_of_ble_eq_true rfl) ((w_X7_hidden_0 hQ hf))

theorem dX7_saves_0 : decode (mB M_X7_saves) 0 = .ok (.aload_n 0, 1) := by decide +kernel
theorem dX7_saves_1 : decode (mB M_X7_saves) 1 = .ok (.getfield 24, 3) := by decide +kernel
theorem dX7_saves_4 : decode (mB M_X7_saves) 4 = .ok (.iload_n 1, 1) := by decide +kernel
theorem dX7_saves_5 : decode (mB M_X7_saves) 5 = .ok (.invokevirtual 234, 3) := by decide +kernel
theorem dX7_saves_8 : decode (mB M_X7_saves) 8 = .ok (.ifCond .ne 13, 3) := by decide +kernel
theorem dX7_saves_11 : decode (mB M_X7_saves) 11 = .ok (.new 140, 3) := by decide +kernel
theorem dX7_saves_14 : decode (mB M_X7_saves) 14 = .ok (.dup, 1) := by decide +kernel
theorem dX7_saves_15 : decode (mB M_X7_saves) 15 = .ok (.ldc 154, 2) := by decide +kernel
theorem dX7_saves_17 : decode (mB M_X7_saves) 17 = .ok (.invokespecial 144, 3) := by decide +kernel
theorem dX7_saves_20 : decode (mB M_X7_saves) 20 = .ok (.athrow, 1) := by decide +kernel
theorem dX7_saves_21 : decode (mB M_X7_saves) 21 = .ok (.aload_n 0, 1) := by decide +kernel
theorem dX7_saves_22 : decode (mB M_X7_saves) 22 = .ok (.getfield 24, 3) := by decide +kernel
theorem dX7_saves_25 : decode (mB M_X7_saves) 25 = .ok (.iload_n 1, 1) := by decide +kernel
theorem dX7_saves_26 : decode (mB M_X7_saves) 26 = .ok (.invokevirtual 237, 3) := by decide +kernel
theorem dX7_saves_29 : decode (mB M_X7_saves) 29 = .ok (.ifCond .ne 13, 3) := by decide +kernel
theorem dX7_saves_32 : decode (mB M_X7_saves) 32 = .ok (.new 66, 3) := by decide +kernel
theorem dX7_saves_35 : decode (mB M_X7_saves) 35 = .ok (.dup, 1) := by decide +kernel
theorem dX7_saves_36 : decode (mB M_X7_saves) 36 = .ok (.ldc 240, 2) := by decide +kernel
theorem dX7_saves_38 : decode (mB M_X7_saves) 38 = .ok (.invokespecial 70, 3) := by decide +kernel
theorem dX7_saves_41 : decode (mB M_X7_saves) 41 = .ok (.athrow, 1) := by decide +kernel
theorem dX7_saves_42 : decode (mB M_X7_saves) 42 = .ok (.aload_n 0, 1) := by decide +kernel
theorem dX7_saves_43 : decode (mB M_X7_saves) 43 = .ok (.getfield 24, 3) := by decide +kernel
theorem dX7_saves_46 : decode (mB M_X7_saves) 46 = .ok (.iload_n 1, 1) := by decide +kernel
theorem dX7_saves_47 : decode (mB M_X7_saves) 47 = .ok (.invokevirtual 267, 3) := by decide +kernel
theorem dX7_saves_50 : decode (mB M_X7_saves) 50 = .ok (.ireturn, 1) := by decide +kernel
def b_X7_saves_0 (v0 : Nat) (v1 : Int32) (h : HP) : Option ((Int32 ⊕ String) × HP) :=
  (gR 7 1 h v0).bind fun x1 => (f_X3_isRun h x1 v1).bind fun y2 => if y2 = 0 then some (.inr "java/lang/IndexOutOfBoundsException", h) else (gR 7 1 h v0).bind fun x4 => (f_X3_canMerge h x4 v1).bind fun y5 => if y5.1 = 0 then some (.inr "java/lang/IllegalStateException", y5.2) else (gR 7 1 y5.2 v0).bind fun x7 => (f_X3_savedBy y5.2 x7 v1).bind fun y8 => some (.inl y8.1, y8.2)
def f_X7_saves (h : HP) (v0 : Nat) (v1 : Int32) : Option ((Int32 ⊕ String) × HP) := (kO 7 h v0).bind fun _ => b_X7_saves_0 v0 v1 h
theorem w_X7_saves_0 {l : Launch} {X : SCR} {Q : PST} {bc bs : Nat} {res : (Int32 ⊕ String) × HP} {h : HP} (hQ : ∀ sz', Q (outT res.1) res.2 sz') (hno : ∀ E, res.1 ≠ .inr E) {v0 : Nat} {v1 : Int32} {sz : Nat} (hf : b_X7_saves_0 v0 v1 h  = some res) : SP l X M_X7_saves 0 [(0, .ref v0), (1, .int v1)] [] h sz bc bs Q := by
  rw [b_X7_saves_0] at hf
  refine sp_aload_n (pc := 0) dX7_saves_0 0 rfl ?_
  obtain ⟨x1, ex1, hf⟩ := ob hf
  refine sp_gR (pc := 1) fl_RX7_24 dX7_saves_1 ex1 ?_
  refine sp_iload_n (pc := 4) dX7_saves_4 1 rfl ?_
  obtain ⟨y2, ey2, hf⟩ := ob hf
  obtain ⟨fsy2, hoy2⟩ := o_X3_isRun ey2
  refine sp_callVi (pc := 5) (z := M_X3_isRun) (As := [.int v1]) (b := x1) (bc2 := bc) (bs2 := bs) (m_X3_isRun (Q := _) (fun sz => ⟨y2, rfl, ?_⟩) ey2) rfl dX7_saves_5 hoy2 rfl rfl ck_X7_saves_234 (Nat.le_of_ble_eq_true rfl) rfl rfl rfl
  refine sp_if_ne (pc := 8) (tgt := 21) dX7_saves_8 (by decide) (fun c3 => ?_) (fun c3 => ?_)
  · rw [if_neg c3] at hf
    refine sp_aload_n (pc := 21) dX7_saves_21 0 rfl ?_
    obtain ⟨x4, ex4, hf⟩ := ob hf
    refine sp_gR (pc := 22) fl_RX7_24 dX7_saves_22 ex4 ?_
    refine sp_iload_n (pc := 25) dX7_saves_25 1 rfl ?_
    obtain ⟨y5, ey5, hf⟩ := ob hf
    obtain ⟨fsy5, hoy5⟩ := o_X3_canMerge ey5
    refine sp_callVi (pc := 26) (z := M_X3_canMerge) (As := [.int v1]) (b := x4) (bc2 := bc) (bs2 := bs) (m_X3_canMerge (Q := _) (fun sz => ⟨y5.1, rfl, ?_⟩) ey5) rfl dX7_saves_26 hoy5 rfl rfl ck_X7_saves_237 (Nat.le_of_ble_eq_true rfl) rfl rfl rfl
    refine sp_if_ne (pc := 29) (tgt := 42) dX7_saves_29 (by decide) (fun c6 => ?_) (fun c6 => ?_)
    · rw [if_neg c6] at hf
      refine sp_aload_n (pc := 42) dX7_saves_42 0 rfl ?_
      obtain ⟨x7, ex7, hf⟩ := ob hf
      refine sp_gR (pc := 43) fl_RX7_24 dX7_saves_43 ex7 ?_
      refine sp_iload_n (pc := 46) dX7_saves_46 1 rfl ?_
      obtain ⟨y8, ey8, hf⟩ := ob hf
      obtain ⟨fsy8, hoy8⟩ := o_X3_savedBy ey8
      refine sp_callVi (pc := 47) (z := M_X3_savedBy) (As := [.int v1]) (b := x7) (bc2 := bc) (bs2 := bs) (m_X3_savedBy (Q := _) (fun sz => ⟨y8.1, rfl, ?_⟩) ey8) rfl dX7_saves_47 hoy8 rfl rfl ck_X7_saves_267 (Nat.le_of_ble_eq_true rfl) rfl rfl rfl
      obtain rfl := Option.some.inj hf
      exact sp_ireturn (pc := 50) dX7_saves_50 rfl rfl (hQ _)
    · rw [if_pos c6] at hf
      obtain rfl := Option.some.inj hf
      exact absurd rfl (hno _)
  · rw [if_pos c3] at hf
    obtain rfl := Option.some.inj hf
    exact absurd rfl (hno _)

theorem o_X7_saves {h : HP} {v0 : Nat} {v1 : Int32} {res : (Int32 ⊕ String) × HP} (hf : f_X7_saves h v0 v1 = some res) : ∃ fs, h v0 = some (.inr (7, fs)) := by
  obtain ⟨u, eu, -⟩ := ob hf
  exact kO_spec eu

theorem m_X7_saves {l : Launch} {Q : PST} {h : HP} {v0 : Nat} {v1 : Int32} {sz : Nat} {res : (Int32 ⊕ String) × HP} (hQ : ∀ sz', Q (outT res.1) res.2 sz') (hno : ∀ E, res.1 ≠ .inr E) (hf : f_X7_saves h v0 v1 = some res) : MM l M_X7_saves [.ref v0, .int v1] h sz Q := by
  obtain ⟨u, eu, hf⟩ := ob hf
  exact MM_of wok_X7_saves (by decide +kernel) (Nat.le_of_ble_eq_true rfl) ((w_X7_saves_0 hQ hno hf))

