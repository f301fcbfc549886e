theorem dX8_mergeFault_0 : decode (mB M_X8_mergeFault) 0 = .ok (.aload_n 0, 1) := by decide +kernel
theorem dX8_mergeFault_1 : decode (mB M_X8_mergeFault) 1 = .ok (.iload_n 1, 1) := by decide +kernel
theorem dX8_mergeFault_2 : decode (mB M_X8_mergeFault) 2 = .ok (.invokevirtual 118, 3) := by decide +kernel
theorem dX8_mergeFault_5 : decode (mB M_X8_mergeFault) 5 = .ok (.ifCond .ne 5, 3) := by decide +kernel
theorem dX8_mergeFault_8 : decode (mB M_X8_mergeFault) 8 = .ok (.iconst 1, 1) := by decide +kernel
theorem dX8_mergeFault_9 : decode (mB M_X8_mergeFault) 9 = .ok (.ireturn, 1) := by decide +kernel
theorem dX8_mergeFault_10 : decode (mB M_X8_mergeFault) 10 = .ok (.iload_n 1, 1) := by decide +kernel
theorem dX8_mergeFault_11 : decode (mB M_X8_mergeFault) 11 = .ok (.aload_n 0, 1) := by decide +kernel
theorem dX8_mergeFault_12 : decode (mB M_X8_mergeFault) 12 = .ok (.getfield 7, 3) := by decide +kernel
theorem dX8_mergeFault_15 : decode (mB M_X8_mergeFault) 15 = .ok (.iconst 0, 1) := by decide +kernel
theorem dX8_mergeFault_16 : decode (mB M_X8_mergeFault) 16 = .ok (.iaload, 1) := by decide +kernel
theorem dX8_mergeFault_17 : decode (mB M_X8_mergeFault) 17 = .ok (.iconst 1, 1) := by decide +kernel
theorem dX8_mergeFault_18 : decode (mB M_X8_mergeFault) 18 = .ok (.isub, 1) := by decide +kernel
theorem dX8_mergeFault_19 : decode (mB M_X8_mergeFault) 19 = .ok (.if_icmp .ne 5, 3) := by decide +kernel
theorem dX8_mergeFault_22 : decode (mB M_X8_mergeFault) 22 = .ok (.iconst 2, 1) := by decide +kernel
theorem dX8_mergeFault_23 : decode (mB M_X8_mergeFault) 23 = .ok (.ireturn, 1) := by decide +kernel
theorem dX8_mergeFault_24 : decode (mB M_X8_mergeFault) 24 = .ok (.aload_n 0, 1) := by decide +kernel
theorem dX8_mergeFault_25 : decode (mB M_X8_mergeFault) 25 = .ok (.iload_n 1, 1) := by decide +kernel
theorem dX8_mergeFault_26 : decode (mB M_X8_mergeFault) 26 = .ok (.iconst 1, 1) := by decide +kernel
theorem dX8_mergeFault_27 : decode (mB M_X8_mergeFault) 27 = .ok (.iadd, 1) := by decide +kernel
theorem dX8_mergeFault_28 : decode (mB M_X8_mergeFault) 28 = .ok (.invokevirtual 46, 3) := by decide +kernel
theorem dX8_mergeFault_31 : decode (mB M_X8_mergeFault) 31 = .ok (.istore_n 2, 1) := by decide +kernel
theorem dX8_mergeFault_32 : decode (mB M_X8_mergeFault) 32 = .ok (.aload_n 0, 1) := by decide +kernel
theorem dX8_mergeFault_33 : decode (mB M_X8_mergeFault) 33 = .ok (.iload_n 1, 1) := by decide +kernel
theorem dX8_mergeFault_34 : decode (mB M_X8_mergeFault) 34 = .ok (.invokevirtual 46, 3) := by decide +kernel
theorem dX8_mergeFault_37 : decode (mB M_X8_mergeFault) 37 = .ok (.aload_n 0, 1) := by decide +kernel
theorem dX8_mergeFault_38 : decode (mB M_X8_mergeFault) 38 = .ok (.getfield 7, 3) := by decide +kernel
theorem dX8_mergeFault_41 : decode (mB M_X8_mergeFault) 41 = .ok (.iconst 1, 1) := by decide +kernel
theorem dX8_mergeFault_42 : decode (mB M_X8_mergeFault) 42 = .ok (.iload_n 1, 1) := by decide +kernel
theorem dX8_mergeFault_43 : decode (mB M_X8_mergeFault) 43 = .ok (.iadd, 1) := by decide +kernel
theorem dX8_mergeFault_44 : decode (mB M_X8_mergeFault) 44 = .ok (.iaload, 1) := by decide +kernel
theorem dX8_mergeFault_45 : decode (mB M_X8_mergeFault) 45 = .ok (.iadd, 1) := by decide +kernel
theorem dX8_mergeFault_46 : decode (mB M_X8_mergeFault) 46 = .ok (.istore_n 3, 1) := by decide +kernel
theorem dX8_mergeFault_47 : decode (mB M_X8_mergeFault) 47 = .ok (.aload_n 0, 1) := by decide +kernel
theorem dX8_mergeFault_48 : decode (mB M_X8_mergeFault) 48 = .ok (.iload_n 2, 1) := by decide +kernel
theorem dX8_mergeFault_49 : decode (mB M_X8_mergeFault) 49 = .ok (.iload_n 3, 1) := by decide +kernel
theorem dX8_mergeFault_50 : decode (mB M_X8_mergeFault) 50 = .ok (.iload_n 1, 1) := by decide +kernel
theorem dX8_mergeFault_51 : decode (mB M_X8_mergeFault) 51 = .ok (.aload_n 0, 1) := by decide +kernel
theorem dX8_mergeFault_52 : decode (mB M_X8_mergeFault) 52 = .ok (.getfield 7, 3) := by decide +kernel
theorem dX8_mergeFault_55 : decode (mB M_X8_mergeFault) 55 = .ok (.iconst 0, 1) := by decide +kernel
theorem dX8_mergeFault_56 : decode (mB M_X8_mergeFault) 56 = .ok (.iaload, 1) := by decide +kernel
theorem dX8_mergeFault_57 : decode (mB M_X8_mergeFault) 57 = .ok (.iconst 2, 1) := by decide +kernel
theorem dX8_mergeFault_58 : decode (mB M_X8_mergeFault) 58 = .ok (.isub, 1) := by decide +kernel
theorem dX8_mergeFault_59 : decode (mB M_X8_mergeFault) 59 = .ok (.if_icmp .ne 7, 3) := by decide +kernel
theorem dX8_mergeFault_62 : decode (mB M_X8_mergeFault) 62 = .ok (.iconst 1, 1) := by decide +kernel
theorem dX8_mergeFault_63 : decode (mB M_X8_mergeFault) 63 = .ok (.goto 4, 3) := by decide +kernel
theorem dX8_mergeFault_66 : decode (mB M_X8_mergeFault) 66 = .ok (.iconst 0, 1) := by decide +kernel
theorem dX8_mergeFault_67 : decode (mB M_X8_mergeFault) 67 = .ok (.invokevirtual 107, 3) := by decide +kernel
theorem dX8_mergeFault_70 : decode (mB M_X8_mergeFault) 70 = .ok (.aload_n 0, 1) := by decide +kernel
theorem dX8_mergeFault_71 : decode (mB M_X8_mergeFault) 71 = .ok (.iload_n 2, 1) := by decide +kernel
theorem dX8_mergeFault_72 : decode (mB M_X8_mergeFault) 72 = .ok (.iload_n 3, 1) := by decide +kernel
theorem dX8_mergeFault_73 : decode (mB M_X8_mergeFault) 73 = .ok (.invokevirtual 111, 3) := by decide +kernel
theorem dX8_mergeFault_76 : decode (mB M_X8_mergeFault) 76 = .ok (.ifCond .eq 7, 3) := by decide +kernel
theorem dX8_mergeFault_79 : decode (mB M_X8_mergeFault) 79 = .ok (.iconst 0, 1) := by decide +kernel
theorem dX8_mergeFault_80 : decode (mB M_X8_mergeFault) 80 = .ok (.goto 4, 3) := by decide +kernel
theorem dX8_mergeFault_83 : decode (mB M_X8_mergeFault) 83 = .ok (.iconst 2, 1) := by decide +kernel
theorem dX8_mergeFault_84 : decode (mB M_X8_mergeFault) 84 = .ok (.ireturn, 1) := by decide +kernel
def b_X8_mergeFault_67 (v0 : Nat) (h : HP) (v2 : Int32) (v3 : Int32) (s0 : Nat) (s1 : Int32) (s2 : Int32) (s3 : Int32) : Option (Int32 × HP) :=
  (f_X8_clean h s0 s1 s2 s3).bind fun y1 => (f_X8_isRoomFor y1 v0 v2 v3).bind fun y2 => if y2 = 0 then some (2, y1) else some (0, y1)
def b_X8_mergeFault_0 (v0 : Nat) (v1 : Int32) (h : HP) : Option (Int32 × HP) :=
  (f_X8_isRun h v0 v1).bind fun y1 => if y1 = 0 then some (1, h) else (gR 8 1 h v0).bind fun x3 => (aI h x3 0).bind fun x4 => if v1 = (x4 - 1) then some (2, h) else (f_X8_begin h v0 (v1 + 1)).bind fun y6 => (f_X8_begin h v0 v1).bind fun y7 => (gR 8 1 h v0).bind fun x8 => (aI h x8 (1 + v1)).bind fun x9 => (gR 8 1 h v0).bind fun x10 => (aI h x10 0).bind fun x11 => if v1 = (x11 - 2) then b_X8_mergeFault_67 v0 h y6 (y7 + x9) v0 y6 (y7 + x9) 1 else b_X8_mergeFault_67 v0 h y6 (y7 + x9) v0 y6 (y7 + x9) 0
def f_X8_mergeFault (h : HP) (v0 : Nat) (v1 : Int32) : Option (Int32 × HP) := (kO 8 h v0).bind fun _ => b_X8_mergeFault_0 v0 v1 h
theorem w_X8_mergeFault_67 {l : Launch} {X : SCR} {Q : PST} {bc bs : Nat} {res : Int32 × HP} {h : HP} (hQ : ∀ sz', Q (.inl (some (.int res.1))) res.2 sz') {v0 : Nat} {v2 : Int32} {v3 : Int32} {s0 : Nat} {s1 : Int32} {s2 : Int32} {s3 : Int32} {sz : Nat} (hf : b_X8_mergeFault_67 v0 h v2 v3 s0 s1 s2 s3 = some res) : SP l X M_X8_mergeFault 67 [(0, .ref v0), (2, .int v2), (3, .int v3)] [.int s3, .int s2, .int s1, .ref s0] h sz bc bs Q := by
  rw [b_X8_mergeFault_67] at hf
  obtain ⟨y1, ey1, hf⟩ := ob hf
  obtain ⟨fsy1, hoy1⟩ := o_X8_clean ey1
  refine sp_callVv (pc := 67) (z := M_X8_clean) (As := [.int s1, .int s2, .int s3]) (b := s0) (bc2 := bc) (bs2 := bs) (m_X8_clean (Q := _) (fun sz => ⟨(), rfl, ?_⟩) ey1) rfl dX8_mergeFault_67 hoy1 rfl rfl ck_X8_mergeFault_107 (Nat.le_of_ble_eq_true rfl) rfl rfl rfl
  refine sp_aload_n (pc := 70) dX8_mergeFault_70 0 rfl ?_
  refine sp_iload_n (pc := 71) dX8_mergeFault_71 1 rfl ?_
  refine sp_iload_n (pc := 72) dX8_mergeFault_72 2 rfl ?_
  obtain ⟨y2, ey2, hf⟩ := ob hf
  obtain ⟨fsy2, hoy2⟩ := o_X8_isRoomFor ey2
  refine sp_callVi (pc := 73) (z := M_X8_isRoomFor) (As := [.int v2, .int v3]) (b := v0) (bc2 := bc) (bs2 := bs) (m_X8_isRoomFor (Q := _) (fun sz => ⟨y2, rfl, ?_⟩) ey2) rfl dX8_mergeFault_73 hoy2 rfl rfl ck_X8_mergeFault_111 (Nat.le_of_ble_eq_true rfl) rfl rfl rfl
  refine sp_if_eq (pc := 76) (tgt := 83) dX8_mergeFault_76 (by decide) (fun c3 => ?_) (fun c3 => ?_)
  · rw [if_pos c3] at hf
    refine sp_iconst (pc := 83) (v := 2) dX8_mergeFault_83 (by decide) ?_
    obtain rfl := Option.some.inj hf
    exact sp_ireturn (pc := 84) dX8_mergeFault_84 rfl rfl (hQ _)
  · rw [if_neg c3] at hf
    refine sp_iconst (pc := 79) (v := 0) dX8_mergeFault_79 (by decide) ?_
    refine sp_goto (pc := 80) (tgt := 84) dX8_mergeFault_80 (by decide) ?_
    obtain rfl := Option.some.inj hf
    exact sp_ireturn (pc := 84) dX8_mergeFault_84 rfl rfl (hQ _)

theorem w_X8_mergeFault_0 {l : Launch} {X : SCR} {Q : PST} {bc bs : Nat} {res : Int32 × HP} {h : HP} (hQ : ∀ sz', Q (.inl (some (.int res.1))) res.2 sz') {v0 : Nat} {v1 : Int32} {sz : Nat} (hf : b_X8_mergeFault_0 v0 v1 h  = some res) : SP l X M_X8_mergeFault 0 [(0, .ref v0), (1, .int v1)] [] h sz bc bs Q := by
  rw [b_X8_mergeFault_0] at hf
  refine sp_aload_n (pc := 0) dX8_mergeFault_0 0 rfl ?_
  refine sp_iload_n (pc := 1) dX8_mergeFault_1 1 rfl ?_
  obtain ⟨y1, ey1, hf⟩ := ob hf
  obtain ⟨fsy1, hoy1⟩ := o_X8_isRun ey1
  refine sp_callVi (pc := 2) (z := M_X8_isRun) (As := [.int v1]) (b := v0) (bc2 := bc) (bs2 := bs) (m_X8_isRun (Q := _) (fun sz => ⟨y1, rfl, ?_⟩) ey1) rfl dX8_mergeFault_2 hoy1 rfl rfl ck_X8_mergeFault_118 (Nat.le_of_ble_eq_true rfl) rfl rfl rfl
  refine sp_if_ne (pc := 5) (tgt := 10) dX8_mergeFault_5 (by decide) (fun c2 => ?_) (fun c2 => ?_)
  · rw [if_neg c2] at hf
    refine sp_iload_n (pc := 10) dX8_mergeFault_10 1 rfl ?_
    refine sp_aload_n (pc := 11) dX8_mergeFault_11 0 rfl ?_
    obtain ⟨x3, ex3, hf⟩ := ob hf
    refine sp_gR (pc := 12) fl_RX8_7 dX8_mergeFault_12 ex3 ?_
    refine sp_iconst (pc := 15) (v := 0) dX8_mergeFault_15 (by decide) ?_
    obtain ⟨x4, ex4, hf⟩ := ob hf
    refine sp_aI (pc := 16) dX8_mergeFault_16 ex4 ?_
    refine sp_iconst (pc := 17) (v := 1) dX8_mergeFault_17 (by decide) ?_
    refine sp_isub (pc := 18) dX8_mergeFault_18 ?_
    refine sp_icmp_ne (pc := 19) (tgt := 24) dX8_mergeFault_19 (by decide) (fun c5 => ?_) (fun c5 => ?_)
    · rw [if_neg c5] at hf
      refine sp_aload_n (pc := 24) dX8_mergeFault_24 0 rfl ?_
      refine sp_iload_n (pc := 25) dX8_mergeFault_25 1 rfl ?_
      refine sp_iconst (pc := 26) (v := 1) dX8_mergeFault_26 (by decide) ?_
      refine sp_iadd (pc := 27) dX8_mergeFault_27 ?_
      obtain ⟨y6, ey6, hf⟩ := ob hf
      obtain ⟨fsy6, hoy6⟩ := o_X8_begin ey6
      refine sp_callVi (pc := 28) (z := M_X8_begin) (As := [.int (v1 + 1)]) (b := v0) (bc2 := bc) (bs2 := bs) (m_X8_begin (Q := _) (fun sz => ⟨y6, rfl, ?_⟩) ey6) rfl dX8_mergeFault_28 hoy6 rfl rfl ck_X8_mergeFault_46 (Nat.le_of_ble_eq_true rfl) rfl rfl rfl
      refine sp_istore_n (pc := 31) (lv' := [(2, .int y6), (0, .ref v0), (1, .int v1)]) dX8_mergeFault_31 (by decide) rfl ?_
      refine sp_aload_n (pc := 32) dX8_mergeFault_32 1 rfl ?_
      refine sp_iload_n (pc := 33) dX8_mergeFault_33 2 rfl ?_
      obtain ⟨y7, ey7, hf⟩ := ob hf
      obtain ⟨fsy7, hoy7⟩ := o_X8_begin ey7
      refine sp_callVi (pc := 34) (z := M_X8_begin) (As := [.int v1]) (b := v0) (bc2 := bc) (bs2 := bs) (m_X8_begin (Q := _) (fun sz => ⟨y7, rfl, ?_⟩) ey7) rfl dX8_mergeFault_34 hoy7 rfl rfl ck_X8_mergeFault_46 (Nat.le_of_ble_eq_true rfl) rfl rfl rfl
      refine sp_aload_n (pc := 37) dX8_mergeFault_37 1 rfl ?_
      obtain ⟨x8, ex8, hf⟩ := ob hf
      refine sp_gR (pc := 38) fl_RX8_7 dX8_mergeFault_38 ex8 ?_
      refine sp_iconst (pc := 41) (v := 1) dX8_mergeFault_41 (by decide) ?_
      refine sp_iload_n (pc := 42) dX8_mergeFault_42 2 rfl ?_
      refine sp_iadd (pc := 43) dX8_mergeFault_43 ?_
      obtain ⟨x9, ex9, hf⟩ := ob hf
      refine sp_aI (pc := 44) dX8_mergeFault_44 ex9 ?_
      refine sp_iadd (pc := 45) dX8_mergeFault_45 ?_
      refine sp_istore_n (pc := 46) (lv' := [(3, .int (y7 + x9)), (2, .int y6), (0, .ref v0), (1, .int v1)]) dX8_mergeFault_46 (by decide) rfl ?_
      refine sp_aload_n (pc := 47) dX8_mergeFault_47 2 rfl ?_
      refine sp_iload_n (pc := 48) dX8_mergeFault_48 1 rfl ?_
      refine sp_iload_n (pc := 49) dX8_mergeFault_49 0 rfl ?_
      refine sp_iload_n (pc := 50) dX8_mergeFault_50 3 rfl ?_
      refine sp_aload_n (pc := 51) dX8_mergeFault_51 2 rfl ?_
      obtain ⟨x10, ex10, hf⟩ := ob hf
      refine sp_gR (pc := 52) fl_RX8_7 dX8_mergeFault_52 ex10 ?_
      refine sp_iconst (pc := 55) (v := 0) dX8_mergeFault_55 (by decide) ?_
      obtain ⟨x11, ex11, hf⟩ := ob hf
      refine sp_aI (pc := 56) dX8_mergeFault_56 ex11 ?_
      refine sp_iconst (pc := 57) (v := 2) dX8_mergeFault_57 (by decide) ?_
      refine sp_isub (pc := 58) dX8_mergeFault_58 ?_
      refine sp_icmp_ne (pc := 59) (tgt := 66) dX8_mergeFault_59 (by decide) (fun c12 => ?_) (fun c12 => ?_)
      · rw [if_neg c12] at hf
        refine sp_iconst (pc := 66) (v := 0) dX8_mergeFault_66 (by decide) ?_
        exact sp_sub [2, 1, 0] rfl (w_X8_mergeFault_67 hQ hf)
      · rw [if_pos c12] at hf
        refine sp_iconst (pc := 62) (v := 1) dX8_mergeFault_62 (by decide) ?_
        refine sp_goto (pc := 63) (tgt := 67) dX8_mergeFault_63 (by decide) ?_
        exact sp_sub [2, 1, 0] rfl (w_X8_mergeFault_67 hQ hf)
    · rw [if_pos c5] at hf
      refine sp_iconst (pc := 22) (v := 2) dX8_mergeFault_22 (by decide) ?_
      obtain rfl := Option.some.inj hf
      exact sp_ireturn (pc := 23) dX8_mergeFault_23 rfl rfl (hQ _)
  · rw [if_pos c2] at hf
    refine sp_iconst (pc := 8) (v := 1) dX8_mergeFault_8 (by decide) ?_
    obtain rfl := Option.some.inj hf
    exact sp_ireturn (pc := 9) dX8_mergeFault_9 rfl rfl (hQ _)

theorem o_X8_mergeFault {h : HP} {v0 : Nat} {v1 : Int32} {res : Int32 × HP} (hf : f_X8_mergeFault h v0 v1 = some res) : ∃ fs, h v0 = some (.inr (8, fs)) := by
  obtain ⟨u, eu, -⟩ := ob hf
  exact kO_spec eu

theorem m_X8_mergeFault {l : Launch} {Q : PST} {h : HP} {v0 : Nat} {v1 : Int32} {sz : Nat} {res : Int32 × HP} (hQ : ∀ sz', Q (.inl (some (.int res.1))) res.2 sz') (hf : f_X8_mergeFault h v0 v1 = some res) : MM l M_X8_mergeFault [.ref v0, .int v1] h sz Q := by
  obtain ⟨u, eu, hf⟩ := ob hf
  exact MM_of wok_X8_mergeFault (by decide +kernel) (Nat.le_of_ble_eq_true rfl) ((w_X8_mergeFault_0 hQ hf))

theorem dX8_merges_0 : decode (mB M_X8_merges) 0 = .ok (.aload_n 0, 1) := by decide +kernel
theorem dX8_merges_1 : decode (mB M_X8_merges) 1 = .ok (.aload_n 0, 1) := by decide +kernel
theorem dX8_merges_2 : decode (mB M_X8_merges) 2 = .ok (.iload_n 1, 1) := by decide +kernel
theorem dX8_merges_3 : decode (mB M_X8_merges) 3 = .ok (.iconst 1, 1) := by decide +kernel
theorem dX8_merges_4 : decode (mB M_X8_merges) 4 = .ok (.iadd, 1) := by decide +kernel
theorem dX8_merges_5 : decode (mB M_X8_merges) 5 = .ok (.invokevirtual 46, 3) := by decide +kernel
theorem dX8_merges_8 : decode (mB M_X8_merges) 8 = .ok (.aload_n 0, 1) := by decide +kernel
theorem dX8_merges_9 : decode (mB M_X8_merges) 9 = .ok (.iload_n 1, 1) := by decide +kernel
theorem dX8_merges_10 : decode (mB M_X8_merges) 10 = .ok (.invokevirtual 46, 3) := by decide +kernel
theorem dX8_merges_13 : decode (mB M_X8_merges) 13 = .ok (.aload_n 0, 1) := by decide +kernel
theorem dX8_merges_14 : decode (mB M_X8_merges) 14 = .ok (.getfield 7, 3) := by decide +kernel
theorem dX8_merges_17 : decode (mB M_X8_merges) 17 = .ok (.iconst 1, 1) := by decide +kernel
theorem dX8_merges_18 : decode (mB M_X8_merges) 18 = .ok (.iload_n 1, 1) := by decide +kernel
theorem dX8_merges_19 : decode (mB M_X8_merges) 19 = .ok (.iadd, 1) := by decide +kernel
theorem dX8_merges_20 : decode (mB M_X8_merges) 20 = .ok (.iaload, 1) := by decide +kernel
theorem dX8_merges_21 : decode (mB M_X8_merges) 21 = .ok (.iadd, 1) := by decide +kernel
theorem dX8_merges_22 : decode (mB M_X8_merges) 22 = .ok (.invokevirtual 114, 3) := by decide +kernel
theorem dX8_merges_25 : decode (mB M_X8_merges) 25 = .ok (.aload_n 0, 1) := by decide +kernel
theorem dX8_merges_26 : decode (mB M_X8_merges) 26 = .ok (.getfield 7, 3) := by decide +kernel
theorem dX8_merges_29 : decode (mB M_X8_merges) 29 = .ok (.iconst 1, 1) := by decide +kernel
theorem dX8_merges_30 : decode (mB M_X8_merges) 30 = .ok (.iload_n 1, 1) := by decide +kernel
theorem dX8_merges_31 : decode (mB M_X8_merges) 31 = .ok (.iadd, 1) := by decide +kernel
theorem dX8_merges_32 : decode (mB M_X8_merges) 32 = .ok (.aload_n 0, 1) := by decide +kernel
theorem dX8_merges_33 : decode (mB M_X8_merges) 33 = .ok (.getfield 78, 3) := by decide +kernel
theorem dX8_merges_36 : decode (mB M_X8_merges) 36 = .ok (.iastore, 1) := by decide +kernel
theorem dX8_merges_37 : decode (mB M_X8_merges) 37 = .ok (.aload_n 0, 1) := by decide +kernel
theorem dX8_merges_38 : decode (mB M_X8_merges) 38 = .ok (.getfield 78, 3) := by decide +kernel
theorem dX8_merges_41 : decode (mB M_X8_merges) 41 = .ok (.ifCond .le 7, 3) := by decide +kernel
theorem dX8_merges_44 : decode (mB M_X8_merges) 44 = .ok (.iconst 1, 1) := by decide +kernel
theorem dX8_merges_45 : decode (mB M_X8_merges) 45 = .ok (.goto 4, 3) := by decide +kernel
theorem dX8_merges_48 : decode (mB M_X8_merges) 48 = .ok (.iconst 2, 1) := by decide +kernel
theorem dX8_merges_49 : decode (mB M_X8_merges) 49 = .ok (.istore_n 2, 1) := by decide +kernel
theorem dX8_merges_50 : decode (mB M_X8_merges) 50 = .ok (.aload_n 0, 1) := by decide +kernel
theorem dX8_merges_51 : decode (mB M_X8_merges) 51 = .ok (.getfield 78, 3) := by decide +kernel
theorem dX8_merges_54 : decode (mB M_X8_merges) 54 = .ok (.ifCond .le 9, 3) := by decide +kernel
theorem dX8_merges_57 : decode (mB M_X8_merges) 57 = .ok (.iload_n 1, 1) := by decide +kernel
theorem dX8_merges_58 : decode (mB M_X8_merges) 58 = .ok (.iconst 1, 1) := by decide +kernel
theorem dX8_merges_59 : decode (mB M_X8_merges) 59 = .ok (.iadd, 1) := by decide +kernel
theorem dX8_merges_60 : decode (mB M_X8_merges) 60 = .ok (.goto 4, 3) := by decide +kernel
theorem dX8_merges_63 : decode (mB M_X8_merges) 63 = .ok (.iload_n 1, 1) := by decide +kernel
theorem dX8_merges_64 : decode (mB M_X8_merges) 64 = .ok (.istore_n 3, 1) := by decide +kernel
theorem dX8_merges_65 : decode (mB M_X8_merges) 65 = .ok (.iload_n 3, 1) := by decide +kernel
theorem dX8_merges_66 : decode (mB M_X8_merges) 66 = .ok (.iload_n 2, 1) := by decide +kernel
theorem dX8_merges_67 : decode (mB M_X8_merges) 67 = .ok (.iadd, 1) := by decide +kernel
theorem dX8_merges_68 : decode (mB M_X8_merges) 68 = .ok (.aload_n 0, 1) := by decide +kernel
theorem dX8_merges_69 : decode (mB M_X8_merges) 69 = .ok (.getfield 7, 3) := by decide +kernel
theorem dX8_merges_72 : decode (mB M_X8_merges) 72 = .ok (.iconst 0, 1) := by decide +kernel
theorem dX8_merges_73 : decode (mB M_X8_merges) 73 = .ok (.iaload, 1) := by decide +kernel
theorem dX8_merges_74 : decode (mB M_X8_merges) 74 = .ok (.if_icmp .ge 27, 3) := by decide +kernel
theorem dX8_merges_77 : decode (mB M_X8_merges) 77 = .ok (.aload_n 0, 1) := by decide +kernel
theorem dX8_merges_78 : decode (mB M_X8_merges) 78 = .ok (.getfield 7, 3) := by decide +kernel
theorem dX8_merges_81 : decode (mB M_X8_merges) 81 = .ok (.iconst 1, 1) := by decide +kernel
theorem dX8_merges_82 : decode (mB M_X8_merges) 82 = .ok (.iload_n 3, 1) := by decide +kernel
theorem dX8_merges_83 : decode (mB M_X8_merges) 83 = .ok (.iadd, 1) := by decide +kernel
theorem dX8_merges_84 : decode (mB M_X8_merges) 84 = .ok (.aload_n 0, 1) := by decide +kernel
theorem dX8_merges_85 : decode (mB M_X8_merges) 85 = .ok (.getfield 7, 3) := by decide +kernel
theorem dX8_merges_88 : decode (mB M_X8_merges) 88 = .ok (.iconst 1, 1) := by decide +kernel
theorem dX8_merges_89 : decode (mB M_X8_merges) 89 = .ok (.iload_n 3, 1) := by decide +kernel
theorem dX8_merges_90 : decode (mB M_X8_merges) 90 = .ok (.iadd, 1) := by decide +kernel
theorem dX8_merges_91 : decode (mB M_X8_merges) 91 = .ok (.iload_n 2, 1) := by decide +kernel
theorem dX8_merges_92 : decode (mB M_X8_merges) 92 = .ok (.iadd, 1) := by decide +kernel
theorem dX8_merges_93 : decode (mB M_X8_merges) 93 = .ok (.iaload, 1) := by decide +kernel
theorem dX8_merges_94 : decode (mB M_X8_merges) 94 = .ok (.iastore, 1) := by decide +kernel
theorem dX8_merges_95 : decode (mB M_X8_merges) 95 = .ok (.iinc 3 1, 3) := by decide +kernel
theorem dX8_merges_98 : decode (mB M_X8_merges) 98 = .ok (.goto (-33), 3) := by decide +kernel
theorem dX8_merges_101 : decode (mB M_X8_merges) 101 = .ok (.aload_n 0, 1) := by decide +kernel
theorem dX8_merges_102 : decode (mB M_X8_merges) 102 = .ok (.getfield 7, 3) := by decide +kernel
theorem dX8_merges_105 : decode (mB M_X8_merges) 105 = .ok (.iconst 0, 1) := by decide +kernel
theorem dX8_merges_106 : decode (mB M_X8_merges) 106 = .ok (.dup2, 1) := by decide +kernel
theorem dX8_merges_107 : decode (mB M_X8_merges) 107 = .ok (.iaload, 1) := by decide +kernel
theorem dX8_merges_108 : decode (mB M_X8_merges) 108 = .ok (.iload_n 2, 1) := by decide +kernel
theorem dX8_merges_109 : decode (mB M_X8_merges) 109 = .ok (.isub, 1) := by decide +kernel
theorem dX8_merges_110 : decode (mB M_X8_merges) 110 = .ok (.iastore, 1) := by decide +kernel
theorem dX8_merges_111 : decode (mB M_X8_merges) 111 = .ok (.aload_n 0, 1) := by decide +kernel
theorem dX8_merges_112 : decode (mB M_X8_merges) 112 = .ok (.getfield 78, 3) := by decide +kernel
theorem dX8_merges_115 : decode (mB M_X8_merges) 115 = .ok (.ireturn, 1) := by decide +kernel
def c_X8_merges_65 (v0 : Nat) (k65 : HP → Int32 → Int32 → Option (Int32 × HP)) (h : HP) (v2 : Int32) (v3 : Int32) : Option (Int32 × HP) :=
  (gR 8 1 h v0).bind fun x1 => (aI h x1 0).bind fun x2 => if x2 ≤ (v3 + v2) then (gR 8 1 h v0).bind fun x4 => (aI h x4 0).bind fun x5 => (wI h x4 0 (x5 - v2)).bind fun h6 => (gI 8 10 h6 v0).bind fun x7 => some (x7, h6) else (gR 8 1 h v0).bind fun x8 => (gR 8 1 h v0).bind fun x9 => (aI h x9 ((1 + v3) + v2)).bind fun x10 => (wI h x8 (1 + v3) x10).bind fun h11 => k65 h11 v2 (v3 + 1)
def b_X8_merges_65 (v0 : Nat) : Nat → HP → Int32 → Int32 → Option (Int32 × HP)
  | 0, _, _, _ => none
  | n + 1, h, v2, v3 => c_X8_merges_65 v0 (b_X8_merges_65 v0 n) h v2 v3
def b_X8_merges_49 (v0 : Nat) (v1 : Int32) (h : HP) (s0 : Int32) : Option (Int32 × HP) :=
  (gI 8 10 h v0).bind fun x1 => if x1 ≤ 0 then b_X8_merges_65 v0 FU h s0 v1 else b_X8_merges_65 v0 FU h s0 (v1 + 1)
def b_X8_merges_0 (v0 : Nat) (v1 : Int32) (h : HP) : Option (Int32 × HP) :=
  (f_X8_begin h v0 (v1 + 1)).bind fun y1 => (f_X8_begin h v0 v1).bind fun y2 => (gR 8 1 h v0).bind fun x3 => (aI h x3 (1 + v1)).bind fun x4 => (f_X8_replace h v0 y1 (y2 + x4)).bind fun y5 => (gR 8 1 y5 v0).bind fun x6 => (gI 8 10 y5 v0).bind fun x7 => (wI y5 x6 (1 + v1) x7).bind fun h8 => (gI 8 10 h8 v0).bind fun x9 => if x9 ≤ 0 then b_X8_merges_49 v0 v1 h8 2 else b_X8_merges_49 v0 v1 h8 1
def f_X8_merges (h : HP) (v0 : Nat) (v1 : Int32) : Option (Int32 × HP) := (kO 8 h v0).bind fun _ => b_X8_merges_0 v0 v1 h
theorem wc_X8_merges_65 {l : Launch} {X : SCR} {Q : PST} {bc bs : Nat} {res : Int32 × HP} (hQ : ∀ sz', Q (.inl (some (.int res.1))) res.2 sz') {v0 : Nat} {k65 : HP → Int32 → Int32 → Option (Int32 × HP)} (hk65 : ∀ (h : HP) (v2 : Int32) (v3 : Int32) (sz : Nat), k65 h v2 v3 = some res → SP l X M_X8_merges 65 [(0, .ref v0), (2, .int v2), (3, .int v3)] [] h sz bc bs Q) {h : HP} {v2 : Int32} {v3 : Int32} {sz : Nat} (hf : c_X8_merges_65 v0 k65 h v2 v3 = some res) : SP l X M_X8_merges 65 [(0, .ref v0), (2, .int v2), (3, .int v3)] [] h sz bc bs Q := by
  rw [c_X8_merges_65] at hf
  refine sp_iload_n (pc := 65) dX8_merges_65 2 rfl ?_
  refine sp_iload_n (pc := 66) dX8_merges_66 1 rfl ?_
  refine sp_iadd (pc := 67) dX8_merges_67 ?_
  refine sp_aload_n (pc := 68) dX8_merges_68 0 rfl ?_
  obtain ⟨x1, ex1, hf⟩ := ob hf
  refine sp_gR (pc := 69) fl_RX8_7 dX8_merges_69 ex1 ?_
  refine sp_iconst (pc := 72) (v := 0) dX8_merges_72 (by decide) ?_
  obtain ⟨x2, ex2, hf⟩ := ob hf
  refine sp_aI (pc := 73) dX8_merges_73 ex2 ?_
  refine sp_icmp_ge (pc := 74) (tgt := 101) dX8_merges_74 (by decide) (fun c3 => ?_) (fun c3 => ?_)
  · rw [if_pos c3] at hf
    refine sp_aload_n (pc := 101) dX8_merges_101 0 rfl ?_
    obtain ⟨x4, ex4, hf⟩ := ob hf
    refine sp_gR (pc := 102) fl_RX8_7 dX8_merges_102 ex4 ?_
    refine sp_iconst (pc := 105) (v := 0) dX8_merges_105 (by decide) ?_
    refine sp_dup2 (pc := 106) dX8_merges_106 rfl rfl ?_
    obtain ⟨x5, ex5, hf⟩ := ob hf
    refine sp_aI (pc := 107) dX8_merges_107 ex5 ?_
    refine sp_iload_n (pc := 108) dX8_merges_108 1 rfl ?_
    refine sp_isub (pc := 109) dX8_merges_109 ?_
    obtain ⟨h6, eh6, hf⟩ := ob hf
    refine sp_wI (pc := 110) dX8_merges_110 eh6 (fun sz => ?_)
    refine sp_aload_n (pc := 111) dX8_merges_111 0 rfl ?_
    obtain ⟨x7, ex7, hf⟩ := ob hf
    refine sp_gI (pc := 112) fl_RX8_78 dX8_merges_112 ex7 ?_
    obtain rfl := Option.some.inj hf
    exact sp_ireturn (pc := 115) dX8_merges_115 rfl rfl (hQ _)
  · rw [if_neg c3] at hf
    refine sp_aload_n (pc := 77) dX8_merges_77 0 rfl ?_
    obtain ⟨x8, ex8, hf⟩ := ob hf
    refine sp_gR (pc := 78) fl_RX8_7 dX8_merges_78 ex8 ?_
    refine sp_iconst (pc := 81) (v := 1) dX8_merges_81 (by decide) ?_
    refine sp_iload_n (pc := 82) dX8_merges_82 2 rfl ?_
    refine sp_iadd (pc := 83) dX8_merges_83 ?_
    refine sp_aload_n (pc := 84) dX8_merges_84 0 rfl ?_
    obtain ⟨x9, ex9, hf⟩ := ob hf
    refine sp_gR (pc := 85) fl_RX8_7 dX8_merges_85 ex9 ?_
    refine sp_iconst (pc := 88) (v := 1) dX8_merges_88 (by decide) ?_
    refine sp_iload_n (pc := 89) dX8_merges_89 2 rfl ?_
    refine sp_iadd (pc := 90) dX8_merges_90 ?_
    refine sp_iload_n (pc := 91) dX8_merges_91 1 rfl ?_
    refine sp_iadd (pc := 92) dX8_merges_92 ?_
    obtain ⟨x10, ex10, hf⟩ := ob hf
    refine sp_aI (pc := 93) dX8_merges_93 ex10 ?_
    obtain ⟨h11, eh11, hf⟩ := ob hf
    refine sp_wI (pc := 94) dX8_merges_94 eh11 (fun sz => ?_)
    refine sp_iinc (pc := 95) (v := v3 + 1) (lv' := [(3, .int (v3 + 1)), (0, .ref v0), (2, .int v2)]) dX8_merges_95 2 rfl rfl (by decide) rfl ?_
    refine sp_goto (pc := 98) (tgt := 65) dX8_merges_98 (by decide) ?_
    exact sp_sub [1, 2, 0] rfl (hk65 _ _ _ _ hf)

theorem w_X8_merges_65 {l : Launch} {X : SCR} {Q : PST} {bc bs : Nat} {res : Int32 × HP} (hQ : ∀ sz', Q (.inl (some (.int res.1))) res.2 sz') {v0 : Nat} : ∀ (n : Nat) {h : HP} {v2 : Int32} {v3 : Int32} {sz : Nat}, b_X8_merges_65 v0 n h v2 v3 = some res → SP l X M_X8_merges 65 [(0, .ref v0), (2, .int v2), (3, .int v3)] [] h sz bc bs Q := by
  intro n
  induction n with
  | zero =>
    intro h v2 v3 sz hf
    rw [b_X8_merges_65] at hf
    cases hf
  | succ n ih =>
    intro h v2 v3 sz hf
    rw [b_X8_merges_65] at hf
    exact wc_X8_merges_65 hQ (fun h v2 v3 sz hf => ih hf) hf

theorem w_X8_merges_49 {l : Launch} {X : SCR} {Q : PST} {bc bs : Nat} {res : Int32 × HP} {h : HP} (hQ : ∀ sz', Q (.inl (some (.int res.1))) res.2 sz') {v0 : Nat} {v1 : Int32} {s0 : Int32} {sz : Nat} (hf : b_X8_merges_49 v0 v1 h s0 = some res) : SP l X M_X8_merges 49 [(0, .ref v0), (1, .int v1)] [.int s0] h sz bc bs Q := by
  rw [b_X8_merges_49] at hf
  refine sp_istore_n (pc := 49) (lv' := [(2, .int s0), (0, .ref v0), (1, .int v1)]) dX8_merges_49 (by decide) rfl ?_
  refine sp_aload_n (pc := 50) dX8_merges_50 1 rfl ?_
  obtain ⟨x1, ex1, hf⟩ := ob hf
  refine sp_gI (pc := 51) fl_RX8_78 dX8_merges_51 ex1 ?_
  refine sp_if_le (pc := 54) (tgt := 63) dX8_merges_54 (by decide) (fun c2 => ?_) (fun c2 => ?_)
  · rw [if_pos c2] at hf
    refine sp_iload_n (pc := 63) dX8_merges_63 2 rfl ?_
    refine sp_istore_n (pc := 64) (lv' := [(3, .int v1), (2, .int s0), (0, .ref v0), (1, .int v1)]) dX8_merges_64 (by decide) rfl ?_
    exact sp_sub [2, 1, 0] rfl (w_X8_merges_65 hQ FU hf)
  · rw [if_neg c2] at hf
    refine sp_iload_n (pc := 57) dX8_merges_57 2 rfl ?_
    refine sp_iconst (pc := 58) (v := 1) dX8_merges_58 (by decide) ?_
    refine sp_iadd (pc := 59) dX8_merges_59 ?_
    refine sp_goto (pc := 60) (tgt := 64) dX8_merges_60 (by decide) ?_
    refine sp_istore_n (pc := 64) (lv' := [(3, .int (v1 + 1)), (2, .int s0), (0, .ref v0), (1, .int v1)]) dX8_merges_64 (by decide) rfl ?_
    exact sp_sub [2, 1, 0] rfl (w_X8_merges_65 hQ FU hf)

theorem w_X8_merges_0 {l : Launch} {X : SCR} {Q : PST} {bc bs : Nat} {res : Int32 × HP} {h : HP} (hQ : ∀ sz', Q (.inl (some (.int res.1))) res.2 sz') {v0 : Nat} {v1 : Int32} {sz : Nat} (hf : b_X8_merges_0 v0 v1 h  = some res) : SP l X M_X8_merges 0 [(0, .ref v0), (1, .int v1)] [] h sz bc bs Q := by
  rw [b_X8_merges_0] at hf
  refine sp_aload_n (pc := 0) dX8_merges_0 0 rfl ?_
  refine sp_aload_n (pc := 1) dX8_merges_1 0 rfl ?_
  refine sp_iload_n (pc := 2) dX8_merges_2 1 rfl ?_
  refine sp_iconst (pc := 3) (v := 1) dX8_merges_3 (by decide) ?_
  refine sp_iadd (pc := 4) dX8_merges_4 ?_
  obtain ⟨y1, ey1, hf⟩ := ob hf
  obtain ⟨fsy1, hoy1⟩ := o_X8_begin ey1
  refine sp_callVi (pc := 5) (z := M_X8_begin) (As := [.int (v1 + 1)]) (b := v0) (bc2 := bc) (bs2 := bs) (m_X8_begin (Q := _) (fun sz => ⟨y1, rfl, ?_⟩) ey1) rfl dX8_merges_5 hoy1 rfl rfl ck_X8_merges_46 (Nat.le_of_ble_eq_true rfl) rfl rfl rfl
  refine sp_aload_n (pc := 8) dX8_merges_8 0 rfl ?_
  refine sp_iload_n (pc := 9) dX8_merges_9 1 rfl ?_
  obtain ⟨y2, ey2, hf⟩ := ob hf
  obtain ⟨fsy2, hoy2⟩ := o_X8_begin ey2
  refine sp_callVi (pc := 10) (z := M_X8_begin) (As := [.int v1]) (b := v0) (bc2 := bc) (bs2 := bs) (m_X8_begin (Q := _) (fun sz => ⟨y2, rfl, ?_⟩) ey2) rfl dX8_merges_10 hoy2 rfl rfl ck_X8_merges_46 (Nat.le_of_ble_eq_true rfl) rfl rfl rfl
  refine sp_aload_n (pc := 13) dX8_merges_13 0 rfl ?_
  obtain ⟨x3, ex3, hf⟩ := ob hf
  refine sp_gR (pc := 14) fl_RX8_7 dX8_merges_14 ex3 ?_
  refine sp_iconst (pc := 17) (v := 1) dX8_merges_17 (by decide) ?_
  refine sp_iload_n (pc := 18) dX8_merges_18 1 rfl ?_
  refine sp_iadd (pc := 19) dX8_merges_19 ?_
  obtain ⟨x4, ex4, hf⟩ := ob hf
  refine sp_aI (pc := 20) dX8_merges_20 ex4 ?_
  refine sp_iadd (pc := 21) dX8_merges_21 ?_
  obtain ⟨y5, ey5, hf⟩ := ob hf
  obtain ⟨fsy5, hoy5⟩ := o_X8_replace ey5
  refine sp_callVv (pc := 22) (z := M_X8_replace) (As := [.int y1, .int (y2 + x4)]) (b := v0) (bc2 := bc) (bs2 := bs) (m_X8_replace (Q := _) (fun sz => ⟨(), rfl, ?_⟩) ey5) rfl dX8_merges_22 hoy5 rfl rfl ck_X8_merges_114 (Nat.le_of_ble_eq_true rfl) rfl rfl rfl
  refine sp_aload_n (pc := 25) dX8_merges_25 0 rfl ?_
  obtain ⟨x6, ex6, hf⟩ := ob hf
  refine sp_gR (pc := 26) fl_RX8_7 dX8_merges_26 ex6 ?_
  refine sp_iconst (pc := 29) (v := 1) dX8_merges_29 (by decide) ?_
  refine sp_iload_n (pc := 30) dX8_merges_30 1 rfl ?_
  refine sp_iadd (pc := 31) dX8_merges_31 ?_
  refine sp_aload_n (pc := 32) dX8_merges_32 0 rfl ?_
  obtain ⟨x7, ex7, hf⟩ := ob hf
  refine sp_gI (pc := 33) fl_RX8_78 dX8_merges_33 ex7 ?_
  obtain ⟨h8, eh8, hf⟩ := ob hf
  refine sp_wI (pc := 36) dX8_merges_36 eh8 (fun sz => ?_)
  refine sp_aload_n (pc := 37) dX8_merges_37 0 rfl ?_
  obtain ⟨x9, ex9, hf⟩ := ob hf
  refine sp_gI (pc := 38) fl_RX8_78 dX8_merges_38 ex9 ?_
  refine sp_if_le (pc := 41) (tgt := 48) dX8_merges_41 (by decide) (fun c10 => ?_) (fun c10 => ?_)
  · rw [if_pos c10] at hf
    refine sp_iconst (pc := 48) (v := 2) dX8_merges_48 (by decide) ?_
    exact (w_X8_merges_49 hQ hf)
  · rw [if_neg c10] at hf
    refine sp_iconst (pc := 44) (v := 1) dX8_merges_44 (by decide) ?_
    refine sp_goto (pc := 45) (tgt := 49) dX8_merges_45 (by decide) ?_
    exact (w_X8_merges_49 hQ hf)

theorem o_X8_merges {h : HP} {v0 : Nat} {v1 : Int32} {res : Int32 × HP} (hf : f_X8_merges h v0 v1 = some res) : ∃ fs, h v0 = some (.inr (8, fs)) := by
  obtain ⟨u, eu, -⟩ := ob hf
  exact kO_spec eu

theorem m_X8_merges {l : Launch} {Q : PST} {h : HP} {v0 : Nat} {v1 : Int32} {sz : Nat} {res : Int32 × HP} (hQ : ∀ sz', Q (.inl (some (.int res.1))) res.2 sz') (hf : f_X8_merges h v0 v1 = some res) : MM l M_X8_merges [.ref v0, .int v1] h sz Q := by
  obtain ⟨u, eu, hf⟩ := ob hf
  exact MM_of wok_X8_merges (by decide +kernel) (Nat.le_of_ble_eq_true rfl) ((w_X8_merges_0 hQ hf))

theorem dX8_append_0 : decode (mB M_X8_append) 0 = .ok (.aload_n 0, 1) := by decide +kernel
theorem dX8_append_1 : decode (mB M_X8_append) 1 = .ok (.iload_n 1, 1) := by decide +kernel
theorem dX8_append_2 : decode (mB M_X8_append) 2 = .ok (.iconst 0, 1) := by decide +kernel
theorem dX8_append_3 : decode (mB M_X8_append) 3 = .ok (.sipush 255, 3) := by decide +kernel
theorem dX8_append_6 : decode (mB M_X8_append) 6 = .ok (.invokestatic 39, 3) := by decide +kernel
theorem dX8_append_9 : decode (mB M_X8_append) 9 = .ok (.ifCond .ne 7, 3) := by decide +kernel
theorem dX8_append_12 : decode (mB M_X8_append) 12 = .ok (.iconst 1, 1) := by decide +kernel
theorem dX8_append_13 : decode (mB M_X8_append) 13 = .ok (.goto 17, 3) := by decide +kernel
theorem dX8_append_16 : decode (mB M_X8_append) 16 = .ok (.aload_n 0, 1) := by decide +kernel
theorem dX8_append_17 : decode (mB M_X8_append) 17 = .ok (.getfield 121, 3) := by decide +kernel
theorem dX8_append_20 : decode (mB M_X8_append) 20 = .ok (.bipush 120, 2) := by decide +kernel
theorem dX8_append_22 : decode (mB M_X8_append) 22 = .ok (.if_icmp .ne 7, 3) := by decide +kernel
theorem dX8_append_25 : decode (mB M_X8_append) 25 = .ok (.iconst 2, 1) := by decide +kernel
theorem dX8_append_26 : decode (mB M_X8_append) 26 = .ok (.goto 4, 3) := by decide +kernel
theorem dX8_append_29 : decode (mB M_X8_append) 29 = .ok (.iconst 0, 1) := by decide +kernel
theorem dX8_append_30 : decode (mB M_X8_append) 30 = .ok (.invokevirtual 124, 3) := by decide +kernel
theorem dX8_append_33 : decode (mB M_X8_append) 33 = .ok (.ifCond .ne 5, 3) := by decide +kernel
theorem dX8_append_36 : decode (mB M_X8_append) 36 = .ok (.iconst 0, 1) := by decide +kernel
theorem dX8_append_37 : decode (mB M_X8_append) 37 = .ok (.ireturn, 1) := by decide +kernel
theorem dX8_append_38 : decode (mB M_X8_append) 38 = .ok (.aload_n 0, 1) := by decide +kernel
theorem dX8_append_39 : decode (mB M_X8_append) 39 = .ok (.getfield 26, 3) := by decide +kernel
theorem dX8_append_42 : decode (mB M_X8_append) 42 = .ok (.aload_n 0, 1) := by decide +kernel
theorem dX8_append_43 : decode (mB M_X8_append) 43 = .ok (.getfield 121, 3) := by decide +kernel
theorem dX8_append_46 : decode (mB M_X8_append) 46 = .ok (.iload_n 1, 1) := by decide +kernel
theorem dX8_append_47 : decode (mB M_X8_append) 47 = .ok (.iastore, 1) := by decide +kernel
theorem dX8_append_48 : decode (mB M_X8_append) 48 = .ok (.aload_n 0, 1) := by decide +kernel
theorem dX8_append_49 : decode (mB M_X8_append) 49 = .ok (.dup, 1) := by decide +kernel
theorem dX8_append_50 : decode (mB M_X8_append) 50 = .ok (.getfield 121, 3) := by decide +kernel
theorem dX8_append_53 : decode (mB M_X8_append) 53 = .ok (.iconst 1, 1) := by decide +kernel
theorem dX8_append_54 : decode (mB M_X8_append) 54 = .ok (.iadd, 1) := by decide +kernel
theorem dX8_append_55 : decode (mB M_X8_append) 55 = .ok (.putfield 121, 3) := by decide +kernel
theorem dX8_append_58 : decode (mB M_X8_append) 58 = .ok (.aload_n 0, 1) := by decide +kernel
theorem dX8_append_59 : decode (mB M_X8_append) 59 = .ok (.getfield 121, 3) := by decide +kernel
theorem dX8_append_62 : decode (mB M_X8_append) 62 = .ok (.ireturn, 1) := by decide +kernel
def b_X8_append_30 (v0 : Nat) (v1 : Int32) (h : HP) (s0 : Nat) (s1 : Int32) : Option (Int32 × HP) :=
  (f_X8_holds h s0 s1).bind fun y1 => if y1.1 = 0 then some (0, y1.2) else (gR 8 7 y1.2 v0).bind fun x3 => (gI 8 8 y1.2 v0).bind fun x4 => (wI y1.2 x3 x4 v1).bind fun h5 => (gI 8 8 h5 v0).bind fun x6 => (pI 8 8 h5 v0 (x6 + 1)).bind fun h7 => (gI 8 8 h7 v0).bind fun x8 => some (x8, h7)
def b_X8_append_0 (v0 : Nat) (v1 : Int32) (h : HP) : Option (Int32 × HP) :=
  (f_X8_in h v1 0 255).bind fun y1 => if y1 = 0 then b_X8_append_30 v0 v1 h v0 1 else (gI 8 8 h v0).bind fun x3 => if x3 = 120 then b_X8_append_30 v0 v1 h v0 2 else b_X8_append_30 v0 v1 h v0 0
def f_X8_append (h : HP) (v0 : Nat) (v1 : Int32) : Option (Int32 × HP) := (kO 8 h v0).bind fun _ => b_X8_append_0 v0 v1 h
theorem w_X8_append_30 {l : Launch} {X : SCR} {Q : PST} {bc bs : Nat} {res : Int32 × HP} {h : HP} (hQ : ∀ sz', Q (.inl (some (.int res.1))) res.2 sz') {v0 : Nat} {v1 : Int32} {s0 : Nat} {s1 : Int32} {sz : Nat} (hf : b_X8_append_30 v0 v1 h s0 s1 = some res) : SP l X M_X8_append 30 [(0, .ref v0), (1, .int v1)] [.int s1, .ref s0] h sz bc bs Q := by
  rw [b_X8_append_30] at hf
  obtain ⟨y1, ey1, hf⟩ := ob hf
  obtain ⟨fsy1, hoy1⟩ := o_X8_holds ey1
  refine sp_callVi (pc := 30) (z := M_X8_holds) (As := [.int s1]) (b := s0) (bc2 := bc) (bs2 := bs) (m_X8_holds (Q := _) (fun sz => ⟨y1.1, rfl, ?_⟩) ey1) rfl dX8_append_30 hoy1 rfl rfl ck_X8_append_124 (Nat.le_of_ble_eq_true rfl) rfl rfl rfl
  refine sp_if_ne (pc := 33) (tgt := 38) dX8_append_33 (by decide) (fun c2 => ?_) (fun c2 => ?_)
  · rw [if_neg c2] at hf
    refine sp_aload_n (pc := 38) dX8_append_38 0 rfl ?_
    obtain ⟨x3, ex3, hf⟩ := ob hf
    refine sp_gR (pc := 39) fl_RX8_26 dX8_append_39 ex3 ?_
    refine sp_aload_n (pc := 42) dX8_append_42 0 rfl ?_
    obtain ⟨x4, ex4, hf⟩ := ob hf
    refine sp_gI (pc := 43) fl_RX8_121 dX8_append_43 ex4 ?_
    refine sp_iload_n (pc := 46) dX8_append_46 1 rfl ?_
    obtain ⟨h5, eh5, hf⟩ := ob hf
    refine sp_wI (pc := 47) dX8_append_47 eh5 (fun sz => ?_)
    refine sp_aload_n (pc := 48) dX8_append_48 0 rfl ?_
    refine sp_dup (pc := 49) dX8_append_49 rfl ?_
    obtain ⟨x6, ex6, hf⟩ := ob hf
    refine sp_gI (pc := 50) fl_RX8_121 dX8_append_50 ex6 ?_
    refine sp_iconst (pc := 53) (v := 1) dX8_append_53 (by decide) ?_
    refine sp_iadd (pc := 54) dX8_append_54 ?_
    obtain ⟨h7, eh7, hf⟩ := ob hf
    refine sp_pI (pc := 55) pf_RX8_121 dX8_append_55 eh7 (fun sz => ?_)
    refine sp_aload_n (pc := 58) dX8_append_58 0 rfl ?_
    obtain ⟨x8, ex8, hf⟩ := ob hf
    refine sp_gI (pc := 59) fl_RX8_121 dX8_append_59 ex8 ?_
    obtain rfl := Option.some.inj hf
    exact sp_ireturn (pc := 62) dX8_append_62 rfl rfl (hQ _)
  · rw [if_pos c2] at hf
    refine sp_iconst (pc := 36) (v := 0) dX8_append_36 (by decide) ?_
    obtain rfl := Option.some.inj hf
    exact sp_ireturn (pc := 37) dX8_append_37 rfl rfl (hQ _)

theorem w_X8_append_0 {l : Launch} {X : SCR} {Q : PST} {bc bs : Nat} {res : Int32 × HP} {h : HP} (hQ : ∀ sz', Q (.inl (some (.int res.1))) res.2 sz') {v0 : Nat} {v1 : Int32} {sz : Nat} (hf : b_X8_append_0 v0 v1 h  = some res) : SP l X M_X8_append 0 [(0, .ref v0), (1, .int v1)] [] h sz bc bs Q := by
  rw [b_X8_append_0] at hf
  refine sp_aload_n (pc := 0) dX8_append_0 0 rfl ?_
  refine sp_iload_n (pc := 1) dX8_append_1 1 rfl ?_
  refine sp_iconst (pc := 2) (v := 0) dX8_append_2 (by decide) ?_
  refine sp_sipush (pc := 3) (v := 255) dX8_append_3 (by decide) ?_
  obtain ⟨y1, ey1, hf⟩ := ob hf
  refine sp_callSi (pc := 6) (z := M_X8_in) (As := [.int v1, .int 0, .int 255]) (bc2 := bc) (bs2 := bs) (m_X8_in (Q := _) (fun sz => ⟨y1, rfl, ?_⟩) ey1) rfl dX8_append_6 rfl ck_X8_append_39 (Nat.le_of_ble_eq_true rfl) rfl rfl rfl
  refine sp_if_ne (pc := 9) (tgt := 16) dX8_append_9 (by decide) (fun c2 => ?_) (fun c2 => ?_)
  · rw [if_neg c2] at hf
    refine sp_aload_n (pc := 16) dX8_append_16 0 rfl ?_
    obtain ⟨x3, ex3, hf⟩ := ob hf
    refine sp_gI (pc := 17) fl_RX8_121 dX8_append_17 ex3 ?_
    refine sp_bipush (pc := 20) (v := 120) dX8_append_20 (by decide) ?_
    refine sp_icmp_ne (pc := 22) (tgt := 29) dX8_append_22 (by decide) (fun c4 => ?_) (fun c4 => ?_)
    · rw [if_neg c4] at hf
      refine sp_iconst (pc := 29) (v := 0) dX8_append_29 (by decide) ?_
      exact (w_X8_append_30 hQ hf)
    · rw [if_pos c4] at hf
      refine sp_iconst (pc := 25) (v := 2) dX8_append_25 (by decide) ?_
      refine sp_goto (pc := 26) (tgt := 30) dX8_append_26 (by decide) ?_
      exact (w_X8_append_30 hQ hf)
  · rw [if_pos c2] at hf
    refine sp_iconst (pc := 12) (v := 1) dX8_append_12 (by decide) ?_
    refine sp_goto (pc := 13) (tgt := 30) dX8_append_13 (by decide) ?_
    exact (w_X8_append_30 hQ hf)

theorem o_X8_append {h : HP} {v0 : Nat} {v1 : Int32} {res : Int32 × HP} (hf : f_X8_append h v0 v1 = some res) : ∃ fs, h v0 = some (.inr (8, fs)) := by
  obtain ⟨u, eu, -⟩ := ob hf
  exact kO_spec eu

theorem m_X8_append {l : Launch} {Q : PST} {h : HP} {v0 : Nat} {v1 : Int32} {sz : Nat} {res : Int32 × HP} (hQ : ∀ sz', Q (.inl (some (.int res.1))) res.2 sz') (hf : f_X8_append h v0 v1 = some res) : MM l M_X8_append [.ref v0, .int v1] h sz Q := by
  obtain ⟨u, eu, hf⟩ := ob hf
  exact MM_of wok_X8_append (by decide +kernel) (Nat.le_of_ble_eq_true rfl) ((w_X8_append_0 hQ hf))

theorem dX8_clearText_0 : decode (mB M_X8_clearText) 0 = .ok (.aload_n 0, 1) := by decide +kernel
theorem dX8_clearText_1 : decode (mB M_X8_clearText) 1 = .ok (.iconst 0, 1) := by decide +kernel
theorem dX8_clearText_2 : decode (mB M_X8_clearText) 2 = .ok (.putfield 35, 3) := by decide +kernel
theorem dX8_clearText_5 : decode (mB M_X8_clearText) 5 = .ok (.aload_n 0, 1) := by decide +kernel
theorem dX8_clearText_6 : decode (mB M_X8_clearText) 6 = .ok (.getfield 121, 3) := by decide +kernel
theorem dX8_clearText_9 : decode (mB M_X8_clearText) 9 = .ok (.istore_n 1, 1) := by decide +kernel
theorem dX8_clearText_10 : decode (mB M_X8_clearText) 10 = .ok (.aload_n 0, 1) := by decide +kernel
theorem dX8_clearText_11 : decode (mB M_X8_clearText) 11 = .ok (.iconst 0, 1) := by decide +kernel
theorem dX8_clearText_12 : decode (mB M_X8_clearText) 12 = .ok (.putfield 121, 3) := by decide +kernel
theorem dX8_clearText_15 : decode (mB M_X8_clearText) 15 = .ok (.iload_n 1, 1) := by decide +kernel
theorem dX8_clearText_16 : decode (mB M_X8_clearText) 16 = .ok (.ireturn, 1) := by decide +kernel
def b_X8_clearText_0 (v0 : Nat) (h : HP) : Option (Int32 × HP) :=
  (pI 8 0 h v0 0).bind fun h1 => (gI 8 8 h1 v0).bind fun x2 => (pI 8 8 h1 v0 0).bind fun h3 => some (x2, h3)
def f_X8_clearText (h : HP) (v0 : Nat) : Option (Int32 × HP) := (kO 8 h v0).bind fun _ => b_X8_clearText_0 v0 h
theorem w_X8_clearText_0 {l : Launch} {X : SCR} {Q : PST} {bc bs : Nat} {res : Int32 × HP} {h : HP} (hQ : ∀ sz', Q (.inl (some (.int res.1))) res.2 sz') {v0 : Nat} {sz : Nat} (hf : b_X8_clearText_0 v0 h  = some res) : SP l X M_X8_clearText 0 [(0, .ref v0)] [] h sz bc bs Q := by
  rw [b_X8_clearText_0] at hf
  refine sp_aload_n (pc := 0) dX8_clearText_0 0 rfl ?_
  refine sp_iconst (pc := 1) (v := 0) dX8_clearText_1 (by decide) ?_
  obtain ⟨h1, eh1, hf⟩ := ob hf
  refine sp_pI (pc := 2) pf_RX8_35 dX8_clearText_2 eh1 (fun sz => ?_)
  refine sp_aload_n (pc := 5) dX8_clearText_5 0 rfl ?_
  obtain ⟨x2, ex2, hf⟩ := ob hf
  refine sp_gI (pc := 6) fl_RX8_121 dX8_clearText_6 ex2 ?_
  refine sp_istore_n (pc := 9) (lv' := [(1, .int x2), (0, .ref v0)]) dX8_clearText_9 (by decide) rfl ?_
  refine sp_aload_n (pc := 10) dX8_clearText_10 1 rfl ?_
  refine sp_iconst (pc := 11) (v := 0) dX8_clearText_11 (by decide) ?_
  obtain ⟨h3, eh3, hf⟩ := ob hf
  refine sp_pI (pc := 12) pf_RX8_121 dX8_clearText_12 eh3 (fun sz => ?_)
  refine sp_iload_n (pc := 15) dX8_clearText_15 0 rfl ?_
  obtain rfl := Option.some.inj hf
  exact sp_ireturn (pc := 16) dX8_clearText_16 rfl rfl (hQ _)

theorem o_X8_clearText {h : HP} {v0 : Nat} {res : Int32 × HP} (hf : f_X8_clearText h v0 = some res) : ∃ fs, h v0 = some (.inr (8, fs)) := by
  obtain ⟨u, eu, -⟩ := ob hf
  exact kO_spec eu

theorem m_X8_clearText {l : Launch} {Q : PST} {h : HP} {v0 : Nat} {sz : Nat} {res : Int32 × HP} (hQ : ∀ sz', Q (.inl (some (.int res.1))) res.2 sz') (hf : f_X8_clearText h v0 = some res) : MM l M_X8_clearText [.ref v0] h sz Q := by
  obtain ⟨u, eu, hf⟩ := ob hf
  exact MM_of wok_X8_clearText (by decide +kernel) (Nat.le_of_ble_eq_true rfl) ((w_X8_clearText_0 hQ hf))

theorem dX8_sign_0 : decode (mB M_X8_sign) 0 = .ok (.aload_n 0, 1) := by decide +kernel
theorem dX8_sign_1 : decode (mB M_X8_sign) 1 = .ok (.getfield 127, 3) := by decide +kernel
theorem dX8_sign_4 : decode (mB M_X8_sign) 4 = .ok (.aload_n 0, 1) := by decide +kernel
theorem dX8_sign_5 : decode (mB M_X8_sign) 5 = .ok (.getfield 121, 3) := by decide +kernel
theorem dX8_sign_8 : decode (mB M_X8_sign) 8 = .ok (.if_icmp .ge 15, 3) := by decide +kernel
theorem dX8_sign_11 : decode (mB M_X8_sign) 11 = .ok (.aload_n 0, 1) := by decide +kernel
theorem dX8_sign_12 : decode (mB M_X8_sign) 12 = .ok (.getfield 26, 3) := by decide +kernel
theorem dX8_sign_15 : decode (mB M_X8_sign) 15 = .ok (.aload_n 0, 1) := by decide +kernel
theorem dX8_sign_16 : decode (mB M_X8_sign) 16 = .ok (.getfield 127, 3) := by decide +kernel
theorem dX8_sign_19 : decode (mB M_X8_sign) 19 = .ok (.iaload, 1) := by decide +kernel
theorem dX8_sign_20 : decode (mB M_X8_sign) 20 = .ok (.goto 4, 3) := by decide +kernel
theorem dX8_sign_23 : decode (mB M_X8_sign) 23 = .ok (.iconst (-1), 1) := by decide +kernel
theorem dX8_sign_24 : decode (mB M_X8_sign) 24 = .ok (.istore_n 3, 1) := by decide +kernel
theorem dX8_sign_25 : decode (mB M_X8_sign) 25 = .ok (.aload_n 0, 1) := by decide +kernel
theorem dX8_sign_26 : decode (mB M_X8_sign) 26 = .ok (.aload_n 0, 1) := by decide +kernel
theorem dX8_sign_27 : decode (mB M_X8_sign) 27 = .ok (.getfield 130, 3) := by decide +kernel
theorem dX8_sign_30 : decode (mB M_X8_sign) 30 = .ok (.ifCond .ne 12, 3) := by decide +kernel
theorem dX8_sign_33 : decode (mB M_X8_sign) 33 = .ok (.iload_n 3, 1) := by decide +kernel
theorem dX8_sign_34 : decode (mB M_X8_sign) 34 = .ok (.iload_n 1, 1) := by decide +kernel
theorem dX8_sign_35 : decode (mB M_X8_sign) 35 = .ok (.iload_n 2, 1) := by decide +kernel
theorem dX8_sign_36 : decode (mB M_X8_sign) 36 = .ok (.invokestatic 39, 3) := by decide +kernel
theorem dX8_sign_39 : decode (mB M_X8_sign) 39 = .ok (.ifCond .ne 7, 3) := by decide +kernel
theorem dX8_sign_42 : decode (mB M_X8_sign) 42 = .ok (.iconst 1, 1) := by decide +kernel
theorem dX8_sign_43 : decode (mB M_X8_sign) 43 = .ok (.goto 4, 3) := by decide +kernel
theorem dX8_sign_46 : decode (mB M_X8_sign) 46 = .ok (.iconst 0, 1) := by decide +kernel
theorem dX8_sign_47 : decode (mB M_X8_sign) 47 = .ok (.putfield 130, 3) := by decide +kernel
theorem dX8_sign_50 : decode (mB M_X8_sign) 50 = .ok (.aload_n 0, 1) := by decide +kernel
theorem dX8_sign_51 : decode (mB M_X8_sign) 51 = .ok (.dup, 1) := by decide +kernel
theorem dX8_sign_52 : decode (mB M_X8_sign) 52 = .ok (.getfield 127, 3) := by decide +kernel
theorem dX8_sign_55 : decode (mB M_X8_sign) 55 = .ok (.aload_n 0, 1) := by decide +kernel
theorem dX8_sign_56 : decode (mB M_X8_sign) 56 = .ok (.getfield 130, 3) := by decide +kernel
theorem dX8_sign_59 : decode (mB M_X8_sign) 59 = .ok (.ifCond .eq 7, 3) := by decide +kernel
theorem dX8_sign_62 : decode (mB M_X8_sign) 62 = .ok (.iconst 0, 1) := by decide +kernel
theorem dX8_sign_63 : decode (mB M_X8_sign) 63 = .ok (.goto 4, 3) := by decide +kernel
theorem dX8_sign_66 : decode (mB M_X8_sign) 66 = .ok (.iconst 1, 1) := by decide +kernel
theorem dX8_sign_67 : decode (mB M_X8_sign) 67 = .ok (.iadd, 1) := by decide +kernel
theorem dX8_sign_68 : decode (mB M_X8_sign) 68 = .ok (.putfield 127, 3) := by decide +kernel
theorem dX8_sign_71 : decode (mB M_X8_sign) 71 = .ok (.iload_n 3, 1) := by decide +kernel
theorem dX8_sign_72 : decode (mB M_X8_sign) 72 = .ok (.ireturn, 1) := by decide +kernel
def b_X8_sign_67 (h : HP) (v3 : Int32) (s0 : Nat) (s1 : Int32) (s2 : Int32) : Option (Int32 × HP) :=
  (pI 8 12 h s0 (s1 + s2)).bind fun h1 => some (v3, h1)
def b_X8_sign_47 (v0 : Nat) (h : HP) (v3 : Int32) (s0 : Nat) (s1 : Int32) : Option (Int32 × HP) :=
  (bz s1).bind fun x2 => (pI 8 13 h s0 x2).bind fun h1 => (gI 8 12 h1 v0).bind fun x3 => (gI 8 13 h1 v0).bind fun x4 => if x4 = 0 then b_X8_sign_67 h1 v3 v0 x3 1 else b_X8_sign_67 h1 v3 v0 x3 0
def b_X8_sign_24 (v0 : Nat) (v1 : Int32) (v2 : Int32) (h : HP) (s0 : Int32) : Option (Int32 × HP) :=
  (gI 8 13 h v0).bind fun x1 => if x1 = 0 then (f_X8_in h s0 v1 v2).bind fun y3 => if y3 = 0 then b_X8_sign_47 v0 h s0 v0 1 else b_X8_sign_47 v0 h s0 v0 0 else b_X8_sign_47 v0 h s0 v0 1
def b_X8_sign_0 (v0 : Nat) (v1 : Int32) (v2 : Int32) (h : HP) : Option (Int32 × HP) :=
  (gI 8 12 h v0).bind fun x1 => (gI 8 8 h v0).bind fun x2 => if x2 ≤ x1 then b_X8_sign_24 v0 v1 v2 h ((-1)) else (gR 8 7 h v0).bind fun x4 => (gI 8 12 h v0).bind fun x5 => (aI h x4 x5).bind fun x6 => b_X8_sign_24 v0 v1 v2 h x6
def f_X8_sign (h : HP) (v0 : Nat) (v1 : Int32) (v2 : Int32) : Option (Int32 × HP) := (kO 8 h v0).bind fun _ => b_X8_sign_0 v0 v1 v2 h
theorem w_X8_sign_67 {l : Launch} {X : SCR} {Q : PST} {bc bs : Nat} {res : Int32 × HP} {h : HP} (hQ : ∀ sz', Q (.inl (some (.int res.1))) res.2 sz') {v3 : Int32} {s0 : Nat} {s1 : Int32} {s2 : Int32} {sz : Nat} (hf : b_X8_sign_67 h v3 s0 s1 s2 = some res) : SP l X M_X8_sign 67 [(3, .int v3)] [.int s2, .int s1, .ref s0] h sz bc bs Q := by
  rw [b_X8_sign_67] at hf
  refine sp_iadd (pc := 67) dX8_sign_67 ?_
  obtain ⟨h1, eh1, hf⟩ := ob hf
  refine sp_pI (pc := 68) pf_RX8_127 dX8_sign_68 eh1 (fun sz => ?_)
  refine sp_iload_n (pc := 71) dX8_sign_71 0 rfl ?_
  obtain rfl := Option.some.inj hf
  exact sp_ireturn (pc := 72) dX8_sign_72 rfl rfl (hQ _)

theorem w_X8_sign_47 {l : Launch} {X : SCR} {Q : PST} {bc bs : Nat} {res : Int32 × HP} {h : HP} (hQ : ∀ sz', Q (.inl (some (.int res.1))) res.2 sz') {v0 : Nat} {v3 : Int32} {s0 : Nat} {s1 : Int32} {sz : Nat} (hf : b_X8_sign_47 v0 h v3 s0 s1 = some res) : SP l X M_X8_sign 47 [(0, .ref v0), (3, .int v3)] [.int s1, .ref s0] h sz bc bs Q := by
  rw [b_X8_sign_47] at hf
  obtain ⟨x2, ex2, hf⟩ := ob hf
  obtain ⟨h1, eh1, hf⟩ := ob hf
  refine sp_pZ (pc := 47) pf_RX8_130 dX8_sign_47 ex2 eh1 (fun sz => ?_)
  refine sp_aload_n (pc := 50) dX8_sign_50 0 rfl ?_
  refine sp_dup (pc := 51) dX8_sign_51 rfl ?_
  obtain ⟨x3, ex3, hf⟩ := ob hf
  refine sp_gI (pc := 52) fl_RX8_127 dX8_sign_52 ex3 ?_
  refine sp_aload_n (pc := 55) dX8_sign_55 0 rfl ?_
  obtain ⟨x4, ex4, hf⟩ := ob hf
  refine sp_gI (pc := 56) fl_RX8_130 dX8_sign_56 ex4 ?_
  refine sp_if_eq (pc := 59) (tgt := 66) dX8_sign_59 (by decide) (fun c5 => ?_) (fun c5 => ?_)
  · rw [if_pos c5] at hf
    refine sp_iconst (pc := 66) (v := 1) dX8_sign_66 (by decide) ?_
    exact sp_sub [1] rfl (w_X8_sign_67 hQ hf)
  · rw [if_neg c5] at hf
    refine sp_iconst (pc := 62) (v := 0) dX8_sign_62 (by decide) ?_
    refine sp_goto (pc := 63) (tgt := 67) dX8_sign_63 (by decide) ?_
    exact sp_sub [1] rfl (w_X8_sign_67 hQ hf)

theorem w_X8_sign_24 {l : Launch} {X : SCR} {Q : PST} {bc bs : Nat} {res : Int32 × HP} {h : HP} (hQ : ∀ sz', Q (.inl (some (.int res.1))) res.2 sz') {v0 : Nat} {v1 : Int32} {v2 : Int32} {s0 : Int32} {sz : Nat} (hf : b_X8_sign_24 v0 v1 v2 h s0 = some res) : SP l X M_X8_sign 24 [(0, .ref v0), (1, .int v1), (2, .int v2)] [.int s0] h sz bc bs Q := by
  rw [b_X8_sign_24] at hf
  refine sp_istore_n (pc := 24) (lv' := [(3, .int s0), (0, .ref v0), (1, .int v1), (2, .int v2)]) dX8_sign_24 (by decide) rfl ?_
  refine sp_aload_n (pc := 25) dX8_sign_25 1 rfl ?_
  refine sp_aload_n (pc := 26) dX8_sign_26 1 rfl ?_
  obtain ⟨x1, ex1, hf⟩ := ob hf
  refine sp_gI (pc := 27) fl_RX8_130 dX8_sign_27 ex1 ?_
  refine sp_if_ne (pc := 30) (tgt := 42) dX8_sign_30 (by decide) (fun c2 => ?_) (fun c2 => ?_)
  · rw [if_neg c2] at hf
    refine sp_iconst (pc := 42) (v := 1) dX8_sign_42 (by decide) ?_
    refine sp_goto (pc := 43) (tgt := 47) dX8_sign_43 (by decide) ?_
    exact sp_sub [1, 0] rfl (w_X8_sign_47 hQ hf)
  · rw [if_pos c2] at hf
    refine sp_iload_n (pc := 33) dX8_sign_33 0 rfl ?_
    refine sp_iload_n (pc := 34) dX8_sign_34 2 rfl ?_
    refine sp_iload_n (pc := 35) dX8_sign_35 3 rfl ?_
    obtain ⟨y3, ey3, hf⟩ := ob hf
    refine sp_callSi (pc := 36) (z := M_X8_in) (As := [.int s0, .int v1, .int v2]) (bc2 := bc) (bs2 := bs) (m_X8_in (Q := _) (fun sz => ⟨y3, rfl, ?_⟩) ey3) rfl dX8_sign_36 rfl ck_X8_sign_39 (Nat.le_of_ble_eq_true rfl) rfl rfl rfl
    refine sp_if_ne (pc := 39) (tgt := 46) dX8_sign_39 (by decide) (fun c4 => ?_) (fun c4 => ?_)
    · rw [if_neg c4] at hf
      refine sp_iconst (pc := 46) (v := 0) dX8_sign_46 (by decide) ?_
      exact sp_sub [1, 0] rfl (w_X8_sign_47 hQ hf)
    · rw [if_pos c4] at hf
      refine sp_iconst (pc := 42) (v := 1) dX8_sign_42 (by decide) ?_
      refine sp_goto (pc := 43) (tgt := 47) dX8_sign_43 (by decide) ?_
      exact sp_sub [1, 0] rfl (w_X8_sign_47 hQ hf)

theorem w_X8_sign_0 {l : Launch} {X : SCR} {Q : PST} {bc bs : Nat} {res : Int32 × HP} {h : HP} (hQ : ∀ sz', Q (.inl (some (.int res.1))) res.2 sz') {v0 : Nat} {v1 : Int32} {v2 : Int32} {sz : Nat} (hf : b_X8_sign_0 v0 v1 v2 h  = some res) : SP l X M_X8_sign 0 [(0, .ref v0), (1, .int v1), (2, .int v2)] [] h sz bc bs Q := by
  rw [b_X8_sign_0] at hf
  refine sp_aload_n (pc := 0) dX8_sign_0 0 rfl ?_
  obtain ⟨x1, ex1, hf⟩ := ob hf
  refine sp_gI (pc := 1) fl_RX8_127 dX8_sign_1 ex1 ?_
  refine sp_aload_n (pc := 4) dX8_sign_4 0 rfl ?_
  obtain ⟨x2, ex2, hf⟩ := ob hf
  refine sp_gI (pc := 5) fl_RX8_121 dX8_sign_5 ex2 ?_
  refine sp_icmp_ge (pc := 8) (tgt := 23) dX8_sign_8 (by decide) (fun c3 => ?_) (fun c3 => ?_)
  · rw [if_pos c3] at hf
    refine sp_iconst (pc := 23) (v := (-1)) dX8_sign_23 (by decide) ?_
    exact (w_X8_sign_24 hQ hf)
  · rw [if_neg c3] at hf
    refine sp_aload_n (pc := 11) dX8_sign_11 0 rfl ?_
    obtain ⟨x4, ex4, hf⟩ := ob hf
    refine sp_gR (pc := 12) fl_RX8_26 dX8_sign_12 ex4 ?_
    refine sp_aload_n (pc := 15) dX8_sign_15 0 rfl ?_
    obtain ⟨x5, ex5, hf⟩ := ob hf
    refine sp_gI (pc := 16) fl_RX8_127 dX8_sign_16 ex5 ?_
    obtain ⟨x6, ex6, hf⟩ := ob hf
    refine sp_aI (pc := 19) dX8_sign_19 ex6 ?_
    refine sp_goto (pc := 20) (tgt := 24) dX8_sign_20 (by decide) ?_
    exact (w_X8_sign_24 hQ hf)

theorem o_X8_sign {h : HP} {v0 : Nat} {v1 : Int32} {v2 : Int32} {res : Int32 × HP} (hf : f_X8_sign h v0 v1 v2 = some res) : ∃ fs, h v0 = some (.inr (8, fs)) := by
  obtain ⟨u, eu, -⟩ := ob hf
  exact kO_spec eu

theorem m_X8_sign {l : Launch} {Q : PST} {h : HP} {v0 : Nat} {v1 : Int32} {v2 : Int32} {sz : Nat} {res : Int32 × HP} (hQ : ∀ sz', Q (.inl (some (.int res.1))) res.2 sz') (hf : f_X8_sign h v0 v1 v2 = some res) : MM l M_X8_sign [.ref v0, .int v1, .int v2] h sz Q := by
  obtain ⟨u, eu, hf⟩ := ob hf
  exact MM_of wok_X8_sign (by decide +kernel) (Nat.le_of_ble_eq_true rfl) ((w_X8_sign_0 hQ hf))

theorem dX8_key_0 : decode (mB M_X8_key) 0 = .ok (.bipush 10, 2) := by decide +kernel
theorem dX8_key_2 : decode (mB M_X8_key) 2 = .ok (.aload_n 0, 1) := by decide +kernel
theorem dX8_key_3 : decode (mB M_X8_key) 3 = .ok (.bipush 48, 2) := by decide +kernel
theorem dX8_key_5 : decode (mB M_X8_key) 5 = .ok (.bipush 57, 2) := by decide +kernel
theorem dX8_key_7 : decode (mB M_X8_key) 7 = .ok (.invokevirtual 134, 3) := by decide +kernel
theorem dX8_key_10 : decode (mB M_X8_key) 10 = .ok (.bipush 48, 2) := by decide +kernel
theorem dX8_key_12 : decode (mB M_X8_key) 12 = .ok (.isub, 1) := by decide +kernel
theorem dX8_key_13 : decode (mB M_X8_key) 13 = .ok (.imul, 1) := by decide +kernel
theorem dX8_key_14 : decode (mB M_X8_key) 14 = .ok (.istore_n 1, 1) := by decide +kernel
theorem dX8_key_15 : decode (mB M_X8_key) 15 = .ok (.iload_n 1, 1) := by decide +kernel
theorem dX8_key_16 : decode (mB M_X8_key) 16 = .ok (.aload_n 0, 1) := by decide +kernel
theorem dX8_key_17 : decode (mB M_X8_key) 17 = .ok (.bipush 48, 2) := by decide +kernel
theorem dX8_key_19 : decode (mB M_X8_key) 19 = .ok (.bipush 57, 2) := by decide +kernel
theorem dX8_key_21 : decode (mB M_X8_key) 21 = .ok (.invokevirtual 134, 3) := by decide +kernel
theorem dX8_key_24 : decode (mB M_X8_key) 24 = .ok (.iadd, 1) := by decide +kernel
theorem dX8_key_25 : decode (mB M_X8_key) 25 = .ok (.bipush 48, 2) := by decide +kernel
theorem dX8_key_27 : decode (mB M_X8_key) 27 = .ok (.isub, 1) := by decide +kernel
theorem dX8_key_28 : decode (mB M_X8_key) 28 = .ok (.ireturn, 1) := by decide +kernel
def b_X8_key_0 (v0 : Nat) (h : HP) : Option (Int32 × HP) :=
  (f_X8_sign h v0 48 57).bind fun y1 => (f_X8_sign y1.2 v0 48 57).bind fun y2 => some (((10 * (y1.1 - 48)) + y2.1) - 48, y2.2)
def f_X8_key (h : HP) (v0 : Nat) : Option (Int32 × HP) := (kO 8 h v0).bind fun _ => b_X8_key_0 v0 h
theorem w_X8_key_0 {l : Launch} {X : SCR} {Q : PST} {bc bs : Nat} {res : Int32 × HP} {h : HP} (hQ : ∀ sz', Q (.inl (some (.int res.1))) res.2 sz') {v0 : Nat} {sz : Nat} (hf : b_X8_key_0 v0 h  = some res) : SP l X M_X8_key 0 [(0, .ref v0)] [] h sz bc bs Q := by
  rw [b_X8_key_0] at hf
  refine sp_bipush (pc := 0) (v := 10) dX8_key_0 (by decide) ?_
  refine sp_aload_n (pc := 2) dX8_key_2 0 rfl ?_
  refine sp_bipush (pc := 3) (v := 48) dX8_key_3 (by decide) ?_
  refine sp_bipush (pc := 5) (v := 57) dX8_key_5 (by decide) ?_
  obtain ⟨y1, ey1, hf⟩ := ob hf
  obtain ⟨fsy1, hoy1⟩ := o_X8_sign ey1
  refine sp_callVi (pc := 7) (z := M_X8_sign) (As := [.int 48, .int 57]) (b := v0) (bc2 := bc) (bs2 := bs) (m_X8_sign (Q := _) (fun sz => ⟨y1.1, rfl, ?_⟩) ey1) rfl dX8_key_7 hoy1 rfl rfl ck_X8_key_134 (Nat.le_of_ble_eq_true rfl) rfl rfl rfl
  refine sp_bipush (pc := 10) (v := 48) dX8_key_10 (by decide) ?_
  refine sp_isub (pc := 12) dX8_key_12 ?_
  refine sp_imul (pc := 13) dX8_key_13 ?_
  refine sp_istore_n (pc := 14) (lv' := [(1, .int (10 * (y1.1 - 48))), (0, .ref v0)]) dX8_key_14 (by decide) rfl ?_
  refine sp_iload_n (pc := 15) dX8_key_15 0 rfl ?_
  refine sp_aload_n (pc := 16) dX8_key_16 1 rfl ?_
  refine sp_bipush (pc := 17) (v := 48) dX8_key_17 (by decide) ?_
  refine sp_bipush (pc := 19) (v := 57) dX8_key_19 (by decide) ?_
  obtain ⟨y2, ey2, hf⟩ := ob hf
  obtain ⟨fsy2, hoy2⟩ := o_X8_sign ey2
  refine sp_callVi (pc := 21) (z := M_X8_sign) (As := [.int 48, .int 57]) (b := v0) (bc2 := bc) (bs2 := bs) (m_X8_sign (Q := _) (fun sz => ⟨y2.1, rfl, ?_⟩) ey2) rfl dX8_key_21 hoy2 rfl rfl ck_X8_key_134 (Nat.le_of_ble_eq_true rfl) rfl rfl rfl
  refine sp_iadd (pc := 24) dX8_key_24 ?_
  refine sp_bipush (pc := 25) (v := 48) dX8_key_25 (by decide) ?_
  refine sp_isub (pc := 27) dX8_key_27 ?_
  obtain rfl := Option.some.inj hf
  exact sp_ireturn (pc := 28) dX8_key_28 rfl rfl (hQ _)

theorem o_X8_key {h : HP} {v0 : Nat} {res : Int32 × HP} (hf : f_X8_key h v0 = some res) : ∃ fs, h v0 = some (.inr (8, fs)) := by
  obtain ⟨u, eu, -⟩ := ob hf
  exact kO_spec eu

theorem m_X8_key {l : Launch} {Q : PST} {h : HP} {v0 : Nat} {sz : Nat} {res : Int32 × HP} (hQ : ∀ sz', Q (.inl (some (.int res.1))) res.2 sz') (hf : f_X8_key h v0 = some res) : MM l M_X8_key [.ref v0] h sz Q := by
  obtain ⟨u, eu, hf⟩ := ob hf
  exact MM_of wok_X8_key (by decide +kernel) (Nat.le_of_ble_eq_true rfl) ((w_X8_key_0 hQ hf))

theorem dX8_command_0 : decode (mB M_X8_command) 0 = .ok (.aload_n 0, 1) := by decide +kernel
theorem dX8_command_1 : decode (mB M_X8_command) 1 = .ok (.getfield 127, 3) := by decide +kernel
theorem dX8_command_4 : decode (mB M_X8_command) 4 = .ok (.aload_n 0, 1) := by decide +kernel
theorem dX8_command_5 : decode (mB M_X8_command) 5 = .ok (.getfield 121, 3) := by decide +kernel
theorem dX8_command_8 : decode (mB M_X8_command) 8 = .ok (.if_icmp .ge 15, 3) := by decide +kernel
theorem dX8_command_11 : decode (mB M_X8_command) 11 = .ok (.aload_n 0, 1) := by decide +kernel
theorem dX8_command_12 : decode (mB M_X8_command) 12 = .ok (.getfield 26, 3) := by decide +kernel
theorem dX8_command_15 : decode (mB M_X8_command) 15 = .ok (.aload_n 0, 1) := by decide +kernel
theorem dX8_command_16 : decode (mB M_X8_command) 16 = .ok (.getfield 127, 3) := by decide +kernel
theorem dX8_command_19 : decode (mB M_X8_command) 19 = .ok (.iaload, 1) := by decide +kernel
theorem dX8_command_20 : decode (mB M_X8_command) 20 = .ok (.goto 4, 3) := by decide +kernel
theorem dX8_command_23 : decode (mB M_X8_command) 23 = .ok (.iconst (-1), 1) := by decide +kernel
theorem dX8_command_24 : decode (mB M_X8_command) 24 = .ok (.istore_n 1, 1) := by decide +kernel
theorem dX8_command_25 : decode (mB M_X8_command) 25 = .ok (.aload_n 0, 1) := by decide +kernel
theorem dX8_command_26 : decode (mB M_X8_command) 26 = .ok (.aload_n 0, 1) := by decide +kernel
theorem dX8_command_27 : decode (mB M_X8_command) 27 = .ok (.getfield 130, 3) := by decide +kernel
theorem dX8_command_30 : decode (mB M_X8_command) 30 = .ok (.ifCond .ne 39, 3) := by decide +kernel
theorem dX8_command_33 : decode (mB M_X8_command) 33 = .ok (.iload_n 1, 1) := by decide +kernel
theorem dX8_command_34 : decode (mB M_X8_command) 34 = .ok (.bipush 112, 2) := by decide +kernel
theorem dX8_command_36 : decode (mB M_X8_command) 36 = .ok (.if_icmp .eq 37, 3) := by decide +kernel
theorem dX8_command_39 : decode (mB M_X8_command) 39 = .ok (.iload_n 1, 1) := by decide +kernel
theorem dX8_command_40 : decode (mB M_X8_command) 40 = .ok (.bipush 120, 2) := by decide +kernel
theorem dX8_command_42 : decode (mB M_X8_command) 42 = .ok (.if_icmp .eq 31, 3) := by decide +kernel
theorem dX8_command_45 : decode (mB M_X8_command) 45 = .ok (.iload_n 1, 1) := by decide +kernel
theorem dX8_command_46 : decode (mB M_X8_command) 46 = .ok (.bipush 102, 2) := by decide +kernel
theorem dX8_command_48 : decode (mB M_X8_command) 48 = .ok (.if_icmp .eq 25, 3) := by decide +kernel
theorem dX8_command_51 : decode (mB M_X8_command) 51 = .ok (.iload_n 1, 1) := by decide +kernel
theorem dX8_command_52 : decode (mB M_X8_command) 52 = .ok (.bipush 109, 2) := by decide +kernel
theorem dX8_command_54 : decode (mB M_X8_command) 54 = .ok (.if_icmp .eq 19, 3) := by decide +kernel
theorem dX8_command_57 : decode (mB M_X8_command) 57 = .ok (.iload_n 1, 1) := by decide +kernel
theorem dX8_command_58 : decode (mB M_X8_command) 58 = .ok (.bipush 111, 2) := by decide +kernel
theorem dX8_command_60 : decode (mB M_X8_command) 60 = .ok (.if_icmp .eq 13, 3) := by decide +kernel
theorem dX8_command_63 : decode (mB M_X8_command) 63 = .ok (.iload_n 1, 1) := by decide +kernel
theorem dX8_command_64 : decode (mB M_X8_command) 64 = .ok (.bipush 99, 2) := by decide +kernel
theorem dX8_command_66 : decode (mB M_X8_command) 66 = .ok (.if_icmp .eq 7, 3) := by decide +kernel
theorem dX8_command_69 : decode (mB M_X8_command) 69 = .ok (.iconst 1, 1) := by decide +kernel
theorem dX8_command_70 : decode (mB M_X8_command) 70 = .ok (.goto 4, 3) := by decide +kernel
theorem dX8_command_73 : decode (mB M_X8_command) 73 = .ok (.iconst 0, 1) := by decide +kernel
theorem dX8_command_74 : decode (mB M_X8_command) 74 = .ok (.putfield 130, 3) := by decide +kernel
theorem dX8_command_77 : decode (mB M_X8_command) 77 = .ok (.aload_n 0, 1) := by decide +kernel
theorem dX8_command_78 : decode (mB M_X8_command) 78 = .ok (.dup, 1) := by decide +kernel
theorem dX8_command_79 : decode (mB M_X8_command) 79 = .ok (.getfield 127, 3) := by decide +kernel
theorem dX8_command_82 : decode (mB M_X8_command) 82 = .ok (.aload_n 0, 1) := by decide +kernel
theorem dX8_command_83 : decode (mB M_X8_command) 83 = .ok (.getfield 130, 3) := by decide +kernel
theorem dX8_command_86 : decode (mB M_X8_command) 86 = .ok (.ifCond .eq 7, 3) := by decide +kernel
theorem dX8_command_89 : decode (mB M_X8_command) 89 = .ok (.iconst 0, 1) := by decide +kernel
theorem dX8_command_90 : decode (mB M_X8_command) 90 = .ok (.goto 4, 3) := by decide +kernel
theorem dX8_command_93 : decode (mB M_X8_command) 93 = .ok (.iconst 1, 1) := by decide +kernel
theorem dX8_command_94 : decode (mB M_X8_command) 94 = .ok (.iadd, 1) := by decide +kernel
theorem dX8_command_95 : decode (mB M_X8_command) 95 = .ok (.putfield 127, 3) := by decide +kernel
theorem dX8_command_98 : decode (mB M_X8_command) 98 = .ok (.aload_n 0, 1) := by decide +kernel
theorem dX8_command_99 : decode (mB M_X8_command) 99 = .ok (.iload_n 1, 1) := by decide +kernel
theorem dX8_command_100 : decode (mB M_X8_command) 100 = .ok (.putfield 137, 3) := by decide +kernel
theorem dX8_command_103 : decode (mB M_X8_command) 103 = .ok (.aload_n 0, 1) := by decide +kernel
theorem dX8_command_104 : decode (mB M_X8_command) 104 = .ok (.iload_n 1, 1) := by decide +kernel
theorem dX8_command_105 : decode (mB M_X8_command) 105 = .ok (.bipush 112, 2) := by decide +kernel
theorem dX8_command_107 : decode (mB M_X8_command) 107 = .ok (.if_icmp .eq 9, 3) := by decide +kernel
theorem dX8_command_110 : decode (mB M_X8_command) 110 = .ok (.iload_n 1, 1) := by decide +kernel
theorem dX8_command_111 : decode (mB M_X8_command) 111 = .ok (.bipush 120, 2) := by decide +kernel
theorem dX8_command_113 : decode (mB M_X8_command) 113 = .ok (.if_icmp .ne 10, 3) := by decide +kernel
theorem dX8_command_116 : decode (mB M_X8_command) 116 = .ok (.aload_n 0, 1) := by decide +kernel
theorem dX8_command_117 : decode (mB M_X8_command) 117 = .ok (.invokevirtual 140, 3) := by decide +kernel
theorem dX8_command_120 : decode (mB M_X8_command) 120 = .ok (.goto 44, 3) := by decide +kernel
theorem dX8_command_123 : decode (mB M_X8_command) 123 = .ok (.iload_n 1, 1) := by decide +kernel
theorem dX8_command_124 : decode (mB M_X8_command) 124 = .ok (.bipush 109, 2) := by decide +kernel
theorem dX8_command_126 : decode (mB M_X8_command) 126 = .ok (.if_icmp .ne 17, 3) := by decide +kernel
theorem dX8_command_129 : decode (mB M_X8_command) 129 = .ok (.aload_n 0, 1) := by decide +kernel
theorem dX8_command_130 : decode (mB M_X8_command) 130 = .ok (.bipush 48, 2) := by decide +kernel
theorem dX8_command_132 : decode (mB M_X8_command) 132 = .ok (.bipush 52, 2) := by decide +kernel
theorem dX8_command_134 : decode (mB M_X8_command) 134 = .ok (.invokevirtual 134, 3) := by decide +kernel
theorem dX8_command_137 : decode (mB M_X8_command) 137 = .ok (.bipush 48, 2) := by decide +kernel
theorem dX8_command_139 : decode (mB M_X8_command) 139 = .ok (.isub, 1) := by decide +kernel
theorem dX8_command_140 : decode (mB M_X8_command) 140 = .ok (.goto 24, 3) := by decide +kernel
theorem dX8_command_143 : decode (mB M_X8_command) 143 = .ok (.iload_n 1, 1) := by decide +kernel
theorem dX8_command_144 : decode (mB M_X8_command) 144 = .ok (.bipush 99, 2) := by decide +kernel
theorem dX8_command_146 : decode (mB M_X8_command) 146 = .ok (.if_icmp .ne 17, 3) := by decide +kernel
theorem dX8_command_149 : decode (mB M_X8_command) 149 = .ok (.aload_n 0, 1) := by decide +kernel
theorem dX8_command_150 : decode (mB M_X8_command) 150 = .ok (.bipush 48, 2) := by decide +kernel
theorem dX8_command_152 : decode (mB M_X8_command) 152 = .ok (.bipush 49, 2) := by decide +kernel
theorem dX8_command_154 : decode (mB M_X8_command) 154 = .ok (.invokevirtual 134, 3) := by decide +kernel
theorem dX8_command_157 : decode (mB M_X8_command) 157 = .ok (.bipush 48, 2) := by decide +kernel
theorem dX8_command_159 : decode (mB M_X8_command) 159 = .ok (.isub, 1) := by decide +kernel
theorem dX8_command_160 : decode (mB M_X8_command) 160 = .ok (.goto 4, 3) := by decide +kernel
theorem dX8_command_163 : decode (mB M_X8_command) 163 = .ok (.iconst 0, 1) := by decide +kernel
theorem dX8_command_164 : decode (mB M_X8_command) 164 = .ok (.putfield 143, 3) := by decide +kernel
theorem dX8_command_167 : decode (mB M_X8_command) 167 = .ok (.aload_n 0, 1) := by decide +kernel
theorem dX8_command_168 : decode (mB M_X8_command) 168 = .ok (.iload_n 1, 1) := by decide +kernel
theorem dX8_command_169 : decode (mB M_X8_command) 169 = .ok (.bipush 112, 2) := by decide +kernel
theorem dX8_command_171 : decode (mB M_X8_command) 171 = .ok (.if_icmp .eq 9, 3) := by decide +kernel
theorem dX8_command_174 : decode (mB M_X8_command) 174 = .ok (.iload_n 1, 1) := by decide +kernel
theorem dX8_command_175 : decode (mB M_X8_command) 175 = .ok (.bipush 120, 2) := by decide +kernel
theorem dX8_command_177 : decode (mB M_X8_command) 177 = .ok (.if_icmp .ne 10, 3) := by decide +kernel
theorem dX8_command_180 : decode (mB M_X8_command) 180 = .ok (.aload_n 0, 1) := by decide +kernel
theorem dX8_command_181 : decode (mB M_X8_command) 181 = .ok (.invokevirtual 140, 3) := by decide +kernel
theorem dX8_command_184 : decode (mB M_X8_command) 184 = .ok (.goto 4, 3) := by decide +kernel
theorem dX8_command_187 : decode (mB M_X8_command) 187 = .ok (.iconst 0, 1) := by decide +kernel
theorem dX8_command_188 : decode (mB M_X8_command) 188 = .ok (.putfield 146, 3) := by decide +kernel
theorem dX8_command_191 : decode (mB M_X8_command) 191 = .ok (.aload_n 0, 1) := by decide +kernel
theorem dX8_command_192 : decode (mB M_X8_command) 192 = .ok (.iload_n 1, 1) := by decide +kernel
theorem dX8_command_193 : decode (mB M_X8_command) 193 = .ok (.bipush 112, 2) := by decide +kernel
theorem dX8_command_195 : decode (mB M_X8_command) 195 = .ok (.if_icmp .ne 37, 3) := by decide +kernel
theorem dX8_command_198 : decode (mB M_X8_command) 198 = .ok (.bipush 10, 2) := by decide +kernel
theorem dX8_command_200 : decode (mB M_X8_command) 200 = .ok (.aload_n 0, 1) := by decide +kernel
theorem dX8_command_201 : decode (mB M_X8_command) 201 = .ok (.getfield 146, 3) := by decide +kernel
theorem dX8_command_204 : decode (mB M_X8_command) 204 = .ok (.imul, 1) := by decide +kernel
theorem dX8_command_205 : decode (mB M_X8_command) 205 = .ok (.aload_n 0, 1) := by decide +kernel
theorem dX8_command_206 : decode (mB M_X8_command) 206 = .ok (.aload_n 0, 1) := by decide +kernel
theorem dX8_command_207 : decode (mB M_X8_command) 207 = .ok (.getfield 146, 3) := by decide +kernel
theorem dX8_command_210 : decode (mB M_X8_command) 210 = .ok (.ifCond .ne 8, 3) := by decide +kernel
theorem dX8_command_213 : decode (mB M_X8_command) 213 = .ok (.bipush 49, 2) := by decide +kernel
theorem dX8_command_215 : decode (mB M_X8_command) 215 = .ok (.goto 5, 3) := by decide +kernel
theorem dX8_command_218 : decode (mB M_X8_command) 218 = .ok (.bipush 48, 2) := by decide +kernel
theorem dX8_command_220 : decode (mB M_X8_command) 220 = .ok (.bipush 57, 2) := by decide +kernel
theorem dX8_command_222 : decode (mB M_X8_command) 222 = .ok (.invokevirtual 134, 3) := by decide +kernel
theorem dX8_command_225 : decode (mB M_X8_command) 225 = .ok (.iadd, 1) := by decide +kernel
theorem dX8_command_226 : decode (mB M_X8_command) 226 = .ok (.bipush 48, 2) := by decide +kernel
theorem dX8_command_228 : decode (mB M_X8_command) 228 = .ok (.isub, 1) := by decide +kernel
theorem dX8_command_229 : decode (mB M_X8_command) 229 = .ok (.goto 7, 3) := by decide +kernel
theorem dX8_command_232 : decode (mB M_X8_command) 232 = .ok (.aload_n 0, 1) := by decide +kernel
theorem dX8_command_233 : decode (mB M_X8_command) 233 = .ok (.getfield 146, 3) := by decide +kernel
theorem dX8_command_236 : decode (mB M_X8_command) 236 = .ok (.putfield 146, 3) := by decide +kernel
theorem dX8_command_239 : decode (mB M_X8_command) 239 = .ok (.return_, 1) := by decide +kernel
def b_X8_command_236 (h : HP) (s0 : Nat) (s1 : Int32) : Option (HP) :=
  (pI 8 16 h s0 s1).bind fun h1 => some h1
def b_X8_command_220 (h : HP) (s0 : Nat) (s1 : Int32) (s2 : Nat) (s3 : Int32) : Option (HP) :=
  (f_X8_sign h s2 s3 57).bind fun y1 => b_X8_command_236 y1.2 s0 ((s1 + y1.1) - 48)
def b_X8_command_188 (v0 : Nat) (h : HP) (v1 : Int32) (s0 : Nat) (s1 : Int32) : Option (HP) :=
  (pI 8 16 h s0 s1).bind fun h1 => if v1 = 112 then (gI 8 16 h1 v0).bind fun x4 => (gI 8 16 h1 v0).bind fun x5 => if x5 = 0 then b_X8_command_220 h1 v0 (10 * x4) v0 49 else b_X8_command_220 h1 v0 (10 * x4) v0 48 else (gI 8 16 h1 v0).bind fun x3 => b_X8_command_236 h1 v0 x3
def b_X8_command_180 (v0 : Nat) (h : HP) (v1 : Int32) (s0 : Nat) : Option (HP) :=
  (f_X8_key h v0).bind fun y1 => b_X8_command_188 v0 y1.2 v1 s0 y1.1
def b_X8_command_164 (v0 : Nat) (h : HP) (v1 : Int32) (s0 : Nat) (s1 : Int32) : Option (HP) :=
  (pI 8 15 h s0 s1).bind fun h1 => if v1 = 112 then b_X8_command_180 v0 h1 v1 v0 else if v1 = 120 then b_X8_command_180 v0 h1 v1 v0 else b_X8_command_188 v0 h1 v1 v0 0
def b_X8_command_116 (v0 : Nat) (h : HP) (v1 : Int32) (s0 : Nat) : Option (HP) :=
  (f_X8_key h v0).bind fun y1 => b_X8_command_164 v0 y1.2 v1 s0 y1.1
def b_X8_command_94 (v0 : Nat) (h : HP) (v1 : Int32) (s0 : Nat) (s1 : Int32) (s2 : Int32) : Option (HP) :=
  (pI 8 12 h s0 (s1 + s2)).bind fun h1 => (pI 8 14 h1 v0 v1).bind fun h2 => if v1 = 112 then b_X8_command_116 v0 h2 v1 v0 else if v1 = 120 then b_X8_command_116 v0 h2 v1 v0 else if v1 = 109 then (f_X8_sign h2 v0 48 52).bind fun y8 => b_X8_command_164 v0 y8.2 v1 v0 (y8.1 - 48) else if v1 = 99 then (f_X8_sign h2 v0 48 49).bind fun y7 => b_X8_command_164 v0 y7.2 v1 v0 (y7.1 - 48) else b_X8_command_164 v0 h2 v1 v0 0
def b_X8_command_74 (v0 : Nat) (h : HP) (v1 : Int32) (s0 : Nat) (s1 : Int32) : Option (HP) :=
  (bz s1).bind fun x2 => (pI 8 13 h s0 x2).bind fun h1 => (gI 8 12 h1 v0).bind fun x3 => (gI 8 13 h1 v0).bind fun x4 => if x4 = 0 then b_X8_command_94 v0 h1 v1 v0 x3 1 else b_X8_command_94 v0 h1 v1 v0 x3 0
def b_X8_command_24 (v0 : Nat) (h : HP) (s0 : Int32) : Option (HP) :=
  (gI 8 13 h v0).bind fun x1 => if x1 = 0 then if s0 = 112 then b_X8_command_74 v0 h s0 v0 0 else if s0 = 120 then b_X8_command_74 v0 h s0 v0 0 else if s0 = 102 then b_X8_command_74 v0 h s0 v0 0 else if s0 = 109 then b_X8_command_74 v0 h s0 v0 0 else if s0 = 111 then b_X8_command_74 v0 h s0 v0 0 else if s0 = 99 then b_X8_command_74 v0 h s0 v0 0 else b_X8_command_74 v0 h s0 v0 1 else b_X8_command_74 v0 h s0 v0 1
def b_X8_command_0 (v0 : Nat) (h : HP) : Option (HP) :=
  (gI 8 12 h v0).bind fun x1 => (gI 8 8 h v0).bind fun x2 => if x2 ≤ x1 then b_X8_command_24 v0 h ((-1)) else (gR 8 7 h v0).bind fun x4 => (gI 8 12 h v0).bind fun x5 => (aI h x4 x5).bind fun x6 => b_X8_command_24 v0 h x6
def f_X8_command (h : HP) (v0 : Nat) : Option (HP) := (kO 8 h v0).bind fun _ => b_X8_command_0 v0 h
theorem w_X8_command_236 {l : Launch} {X : SCR} {Q : PST} {bc bs : Nat} {res : HP} {h : HP} (hQ : ∀ sz', Q (.inl none) res sz') {s0 : Nat} {s1 : Int32} {sz : Nat} (hf : b_X8_command_236 h s0 s1 = some res) : SP l X M_X8_command 236 [] [.int s1, .ref s0] h sz bc bs Q := by
  rw [b_X8_command_236] at hf
  obtain ⟨h1, eh1, hf⟩ := ob hf
  refine sp_pI (pc := 236) pf_RX8_146 dX8_command_236 eh1 (fun sz => ?_)
  obtain rfl := Option.some.inj hf
  exact sp_return (pc := 239) dX8_command_239 rfl (hQ _)

theorem w_X8_command_220 {l : Launch} {X : SCR} {Q : PST} {bc bs : Nat} {res : HP} {h : HP} (hQ : ∀ sz', Q (.inl none) res sz') {s0 : Nat} {s1 : Int32} {s2 : Nat} {s3 : Int32} {sz : Nat} (hf : b_X8_command_220 h s0 s1 s2 s3 = some res) : SP l X M_X8_command 220 [] [.int s3, .ref s2, .int s1, .ref s0] h sz bc bs Q := by
  rw [b_X8_command_220] at hf
  refine sp_bipush (pc := 220) (v := 57) dX8_command_220 (by decide) ?_
  obtain ⟨y1, ey1, hf⟩ := ob hf
  obtain ⟨fsy1, hoy1⟩ := o_X8_sign ey1
  refine sp_callVi (pc := 222) (z := M_X8_sign) (As := [.int s3, .int 57]) (b := s2) (bc2 := bc) (bs2 := bs) (m_X8_sign (Q := _) (fun sz => ⟨y1.1, rfl, ?_⟩) ey1) rfl dX8_command_222 hoy1 rfl rfl ck_X8_command_134 (Nat.le_of_ble_eq_true rfl) rfl rfl rfl
  refine sp_iadd (pc := 225) dX8_command_225 ?_
  refine sp_bipush (pc := 226) (v := 48) dX8_command_226 (by decide) ?_
  refine sp_isub (pc := 228) dX8_command_228 ?_
  refine sp_goto (pc := 229) (tgt := 236) dX8_command_229 (by decide) ?_
  exact (w_X8_command_236 hQ hf)

theorem w_X8_command_188 {l : Launch} {X : SCR} {Q : PST} {bc bs : Nat} {res : HP} {h : HP} (hQ : ∀ sz', Q (.inl none) res sz') {v0 : Nat} {v1 : Int32} {s0 : Nat} {s1 : Int32} {sz : Nat} (hf : b_X8_command_188 v0 h v1 s0 s1 = some res) : SP l X M_X8_command 188 [(0, .ref v0), (1, .int v1)] [.int s1, .ref s0] h sz bc bs Q := by
  rw [b_X8_command_188] at hf
  obtain ⟨h1, eh1, hf⟩ := ob hf
  refine sp_pI (pc := 188) pf_RX8_146 dX8_command_188 eh1 (fun sz => ?_)
  refine sp_aload_n (pc := 191) dX8_command_191 0 rfl ?_
  refine sp_iload_n (pc := 192) dX8_command_192 1 rfl ?_
  refine sp_bipush (pc := 193) (v := 112) dX8_command_193 (by decide) ?_
  refine sp_icmp_ne (pc := 195) (tgt := 232) dX8_command_195 (by decide) (fun c2 => ?_) (fun c2 => ?_)
  · rw [if_neg c2] at hf
    refine sp_aload_n (pc := 232) dX8_command_232 0 rfl ?_
    obtain ⟨x3, ex3, hf⟩ := ob hf
    refine sp_gI (pc := 233) fl_RX8_146 dX8_command_233 ex3 ?_
    exact sp_sub [] rfl (w_X8_command_236 hQ hf)
  · rw [if_pos c2] at hf
    refine sp_bipush (pc := 198) (v := 10) dX8_command_198 (by decide) ?_
    refine sp_aload_n (pc := 200) dX8_command_200 0 rfl ?_
    obtain ⟨x4, ex4, hf⟩ := ob hf
    refine sp_gI (pc := 201) fl_RX8_146 dX8_command_201 ex4 ?_
    refine sp_imul (pc := 204) dX8_command_204 ?_
    refine sp_aload_n (pc := 205) dX8_command_205 0 rfl ?_
    refine sp_aload_n (pc := 206) dX8_command_206 0 rfl ?_
    obtain ⟨x5, ex5, hf⟩ := ob hf
    refine sp_gI (pc := 207) fl_RX8_146 dX8_command_207 ex5 ?_
    refine sp_if_ne (pc := 210) (tgt := 218) dX8_command_210 (by decide) (fun c6 => ?_) (fun c6 => ?_)
    · rw [if_neg c6] at hf
      refine sp_bipush (pc := 218) (v := 48) dX8_command_218 (by decide) ?_
      exact sp_sub [] rfl (w_X8_command_220 hQ hf)
    · rw [if_pos c6] at hf
      refine sp_bipush (pc := 213) (v := 49) dX8_command_213 (by decide) ?_
      refine sp_goto (pc := 215) (tgt := 220) dX8_command_215 (by decide) ?_
      exact sp_sub [] rfl (w_X8_command_220 hQ hf)

theorem w_X8_command_180 {l : Launch} {X : SCR} {Q : PST} {bc bs : Nat} {res : HP} {h : HP} (hQ : ∀ sz', Q (.inl none) res sz') {v0 : Nat} {v1 : Int32} {s0 : Nat} {sz : Nat} (hf : b_X8_command_180 v0 h v1 s0 = some res) : SP l X M_X8_command 180 [(0, .ref v0), (1, .int v1)] [.ref s0] h sz bc bs Q := by
  rw [b_X8_command_180] at hf
  refine sp_aload_n (pc := 180) dX8_command_180 0 rfl ?_
  obtain ⟨y1, ey1, hf⟩ := ob hf
  obtain ⟨fsy1, hoy1⟩ := o_X8_key ey1
  refine sp_callVi (pc := 181) (z := M_X8_key) (As := []) (b := v0) (bc2 := bc) (bs2 := bs) (m_X8_key (Q := _) (fun sz => ⟨y1.1, rfl, ?_⟩) ey1) rfl dX8_command_181 hoy1 rfl rfl ck_X8_command_140 (Nat.le_of_ble_eq_true rfl) rfl rfl rfl
  refine sp_goto (pc := 184) (tgt := 188) dX8_command_184 (by decide) ?_
  exact (w_X8_command_188 hQ hf)

theorem w_X8_command_164 {l : Launch} {X : SCR} {Q : PST} {bc bs : Nat} {res : HP} {h : HP} (hQ : ∀ sz', Q (.inl none) res sz') {v0 : Nat} {v1 : Int32} {s0 : Nat} {s1 : Int32} {sz : Nat} (hf : b_X8_command_164 v0 h v1 s0 s1 = some res) : SP l X M_X8_command 164 [(0, .ref v0), (1, .int v1)] [.int s1, .ref s0] h sz bc bs Q := by
  rw [b_X8_command_164] at hf
  obtain ⟨h1, eh1, hf⟩ := ob hf
  refine sp_pI (pc := 164) pf_RX8_143 dX8_command_164 eh1 (fun sz => ?_)
  refine sp_aload_n (pc := 167) dX8_command_167 0 rfl ?_
  refine sp_iload_n (pc := 168) dX8_command_168 1 rfl ?_
  refine sp_bipush (pc := 169) (v := 112) dX8_command_169 (by decide) ?_
  refine sp_icmp_eq (pc := 171) (tgt := 180) dX8_command_171 (by decide) (fun c2 => ?_) (fun c2 => ?_)
  · rw [if_pos c2] at hf
    exact (w_X8_command_180 hQ hf)
  · rw [if_neg c2] at hf
    refine sp_iload_n (pc := 174) dX8_command_174 1 rfl ?_
    refine sp_bipush (pc := 175) (v := 120) dX8_command_175 (by decide) ?_
    refine sp_icmp_ne (pc := 177) (tgt := 187) dX8_command_177 (by decide) (fun c3 => ?_) (fun c3 => ?_)
    · rw [if_neg c3] at hf
      refine sp_iconst (pc := 187) (v := 0) dX8_command_187 (by decide) ?_
      exact (w_X8_command_188 hQ hf)
    · rw [if_pos c3] at hf
      exact (w_X8_command_180 hQ hf)

theorem w_X8_command_116 {l : Launch} {X : SCR} {Q : PST} {bc bs : Nat} {res : HP} {h : HP} (hQ : ∀ sz', Q (.inl none) res sz') {v0 : Nat} {v1 : Int32} {s0 : Nat} {sz : Nat} (hf : b_X8_command_116 v0 h v1 s0 = some res) : SP l X M_X8_command 116 [(0, .ref v0), (1, .int v1)] [.ref s0] h sz bc bs Q := by
  rw [b_X8_command_116] at hf
  refine sp_aload_n (pc := 116) dX8_command_116 0 rfl ?_
  obtain ⟨y1, ey1, hf⟩ := ob hf
  obtain ⟨fsy1, hoy1⟩ := o_X8_key ey1
  refine sp_callVi (pc := 117) (z := M_X8_key) (As := []) (b := v0) (bc2 := bc) (bs2 := bs) (m_X8_key (Q := _) (fun sz => ⟨y1.1, rfl, ?_⟩) ey1) rfl dX8_command_117 hoy1 rfl rfl ck_X8_command_140 (Nat.le_of_ble_eq_true rfl) rfl rfl rfl
  refine sp_goto (pc := 120) (tgt := 164) dX8_command_120 (by decide) ?_
  exact (w_X8_command_164 hQ hf)

theorem w_X8_command_94 {l : Launch} {X : SCR} {Q : PST} {bc bs : Nat} {res : HP} {h : HP} (hQ : ∀ sz', Q (.inl none) res sz') {v0 : Nat} {v1 : Int32} {s0 : Nat} {s1 : Int32} {s2 : Int32} {sz : Nat} (hf : b_X8_command_94 v0 h v1 s0 s1 s2 = some res) : SP l X M_X8_command 94 [(0, .ref v0), (1, .int v1)] [.int s2, .int s1, .ref s0] h sz bc bs Q := by
  rw [b_X8_command_94] at hf
  refine sp_iadd (pc := 94) dX8_command_94 ?_
  obtain ⟨h1, eh1, hf⟩ := ob hf
  refine sp_pI (pc := 95) pf_RX8_127 dX8_command_95 eh1 (fun sz => ?_)
  refine sp_aload_n (pc := 98) dX8_command_98 0 rfl ?_
  refine sp_iload_n (pc := 99) dX8_command_99 1 rfl ?_
  obtain ⟨h2, eh2, hf⟩ := ob hf
  refine sp_pI (pc := 100) pf_RX8_137 dX8_command_100 eh2 (fun sz => ?_)
  refine sp_aload_n (pc := 103) dX8_command_103 0 rfl ?_
  refine sp_iload_n (pc := 104) dX8_command_104 1 rfl ?_
  refine sp_bipush (pc := 105) (v := 112) dX8_command_105 (by decide) ?_
  refine sp_icmp_eq (pc := 107) (tgt := 116) dX8_command_107 (by decide) (fun c3 => ?_) (fun c3 => ?_)
  · rw [if_pos c3] at hf
    exact (w_X8_command_116 hQ hf)
  · rw [if_neg c3] at hf
    refine sp_iload_n (pc := 110) dX8_command_110 1 rfl ?_
    refine sp_bipush (pc := 111) (v := 120) dX8_command_111 (by decide) ?_
    refine sp_icmp_ne (pc := 113) (tgt := 123) dX8_command_113 (by decide) (fun c4 => ?_) (fun c4 => ?_)
    · rw [if_neg c4] at hf
      refine sp_iload_n (pc := 123) dX8_command_123 1 rfl ?_
      refine sp_bipush (pc := 124) (v := 109) dX8_command_124 (by decide) ?_
      refine sp_icmp_ne (pc := 126) (tgt := 143) dX8_command_126 (by decide) (fun c5 => ?_) (fun c5 => ?_)
      · rw [if_neg c5] at hf
        refine sp_iload_n (pc := 143) dX8_command_143 1 rfl ?_
        refine sp_bipush (pc := 144) (v := 99) dX8_command_144 (by decide) ?_
        refine sp_icmp_ne (pc := 146) (tgt := 163) dX8_command_146 (by decide) (fun c6 => ?_) (fun c6 => ?_)
        · rw [if_neg c6] at hf
          refine sp_iconst (pc := 163) (v := 0) dX8_command_163 (by decide) ?_
          exact (w_X8_command_164 hQ hf)
        · rw [if_pos c6] at hf
          refine sp_aload_n (pc := 149) dX8_command_149 0 rfl ?_
          refine sp_bipush (pc := 150) (v := 48) dX8_command_150 (by decide) ?_
          refine sp_bipush (pc := 152) (v := 49) dX8_command_152 (by decide) ?_
          obtain ⟨y7, ey7, hf⟩ := ob hf
          obtain ⟨fsy7, hoy7⟩ := o_X8_sign ey7
          refine sp_callVi (pc := 154) (z := M_X8_sign) (As := [.int 48, .int 49]) (b := v0) (bc2 := bc) (bs2 := bs) (m_X8_sign (Q := _) (fun sz => ⟨y7.1, rfl, ?_⟩) ey7) rfl dX8_command_154 hoy7 rfl rfl ck_X8_command_134 (Nat.le_of_ble_eq_true rfl) rfl rfl rfl
          refine sp_bipush (pc := 157) (v := 48) dX8_command_157 (by decide) ?_
          refine sp_isub (pc := 159) dX8_command_159 ?_
          refine sp_goto (pc := 160) (tgt := 164) dX8_command_160 (by decide) ?_
          exact (w_X8_command_164 hQ hf)
      · rw [if_pos c5] at hf
        refine sp_aload_n (pc := 129) dX8_command_129 0 rfl ?_
        refine sp_bipush (pc := 130) (v := 48) dX8_command_130 (by decide) ?_
        refine sp_bipush (pc := 132) (v := 52) dX8_command_132 (by decide) ?_
        obtain ⟨y8, ey8, hf⟩ := ob hf
        obtain ⟨fsy8, hoy8⟩ := o_X8_sign ey8
        refine sp_callVi (pc := 134) (z := M_X8_sign) (As := [.int 48, .int 52]) (b := v0) (bc2 := bc) (bs2 := bs) (m_X8_sign (Q := _) (fun sz => ⟨y8.1, rfl, ?_⟩) ey8) rfl dX8_command_134 hoy8 rfl rfl ck_X8_command_134 (Nat.le_of_ble_eq_true rfl) rfl rfl rfl
        refine sp_bipush (pc := 137) (v := 48) dX8_command_137 (by decide) ?_
        refine sp_isub (pc := 139) dX8_command_139 ?_
        refine sp_goto (pc := 140) (tgt := 164) dX8_command_140 (by decide) ?_
        exact (w_X8_command_164 hQ hf)
    · rw [if_pos c4] at hf
      exact (w_X8_command_116 hQ hf)

theorem w_X8_command_74 {l : Launch} {X : SCR} {Q : PST} {bc bs : Nat} {res : HP} {h : HP} (hQ : ∀ sz', Q (.inl none) res sz') {v0 : Nat} {v1 : Int32} {s0 : Nat} {s1 : Int32} {sz : Nat} (hf : b_X8_command_74 v0 h v1 s0 s1 = some res) : SP l X M_X8_command 74 [(0, .ref v0), (1, .int v1)] [.int s1, .ref s0] h sz bc bs Q := by
  rw [b_X8_command_74] at hf
  obtain ⟨x2, ex2, hf⟩ := ob hf
  obtain ⟨h1, eh1, hf⟩ := ob hf
  refine sp_pZ (pc := 74) pf_RX8_130 dX8_command_74 ex2 eh1 (fun sz => ?_)
  refine sp_aload_n (pc := 77) dX8_command_77 0 rfl ?_
  refine sp_dup (pc := 78) dX8_command_78 rfl ?_
  obtain ⟨x3, ex3, hf⟩ := ob hf
  refine sp_gI (pc := 79) fl_RX8_127 dX8_command_79 ex3 ?_
  refine sp_aload_n (pc := 82) dX8_command_82 0 rfl ?_
  obtain ⟨x4, ex4, hf⟩ := ob hf
  refine sp_gI (pc := 83) fl_RX8_130 dX8_command_83 ex4 ?_
  refine sp_if_eq (pc := 86) (tgt := 93) dX8_command_86 (by decide) (fun c5 => ?_) (fun c5 => ?_)
  · rw [if_pos c5] at hf
    refine sp_iconst (pc := 93) (v := 1) dX8_command_93 (by decide) ?_
    exact (w_X8_command_94 hQ hf)
  · rw [if_neg c5] at hf
    refine sp_iconst (pc := 89) (v := 0) dX8_command_89 (by decide) ?_
    refine sp_goto (pc := 90) (tgt := 94) dX8_command_90 (by decide) ?_
    exact (w_X8_command_94 hQ hf)

theorem w_X8_command_24 {l : Launch} {X : SCR} {Q : PST} {bc bs : Nat} {res : HP} {h : HP} (hQ : ∀ sz', Q (.inl none) res sz') {v0 : Nat} {s0 : Int32} {sz : Nat} (hf : b_X8_command_24 v0 h s0 = some res) : SP l X M_X8_command 24 [(0, .ref v0)] [.int s0] h sz bc bs Q := by
  rw [b_X8_command_24] at hf
  refine sp_istore_n (pc := 24) (lv' := [(1, .int s0), (0, .ref v0)]) dX8_command_24 (by decide) rfl ?_
  refine sp_aload_n (pc := 25) dX8_command_25 1 rfl ?_
  refine sp_aload_n (pc := 26) dX8_command_26 1 rfl ?_
  obtain ⟨x1, ex1, hf⟩ := ob hf
  refine sp_gI (pc := 27) fl_RX8_130 dX8_command_27 ex1 ?_
  refine sp_if_ne (pc := 30) (tgt := 69) dX8_command_30 (by decide) (fun c2 => ?_) (fun c2 => ?_)
  · rw [if_neg c2] at hf
    refine sp_iconst (pc := 69) (v := 1) dX8_command_69 (by decide) ?_
    refine sp_goto (pc := 70) (tgt := 74) dX8_command_70 (by decide) ?_
    exact sp_sub [1, 0] rfl (w_X8_command_74 hQ hf)
  · rw [if_pos c2] at hf
    refine sp_iload_n (pc := 33) dX8_command_33 0 rfl ?_
    refine sp_bipush (pc := 34) (v := 112) dX8_command_34 (by decide) ?_
    refine sp_icmp_eq (pc := 36) (tgt := 73) dX8_command_36 (by decide) (fun c3 => ?_) (fun c3 => ?_)
    · rw [if_pos c3] at hf
      refine sp_iconst (pc := 73) (v := 0) dX8_command_73 (by decide) ?_
      exact sp_sub [1, 0] rfl (w_X8_command_74 hQ hf)
    · rw [if_neg c3] at hf
      refine sp_iload_n (pc := 39) dX8_command_39 0 rfl ?_
      refine sp_bipush (pc := 40) (v := 120) dX8_command_40 (by decide) ?_
      refine sp_icmp_eq (pc := 42) (tgt := 73) dX8_command_42 (by decide) (fun c4 => ?_) (fun c4 => ?_)
      · rw [if_pos c4] at hf
        refine sp_iconst (pc := 73) (v := 0) dX8_command_73 (by decide) ?_
        exact sp_sub [1, 0] rfl (w_X8_command_74 hQ hf)
      · rw [if_neg c4] at hf
        refine sp_iload_n (pc := 45) dX8_command_45 0 rfl ?_
        refine sp_bipush (pc := 46) (v := 102) dX8_command_46 (by decide) ?_
        refine sp_icmp_eq (pc := 48) (tgt := 73) dX8_command_48 (by decide) (fun c5 => ?_) (fun c5 => ?_)
        · rw [if_pos c5] at hf
          refine sp_iconst (pc := 73) (v := 0) dX8_command_73 (by decide) ?_
          exact sp_sub [1, 0] rfl (w_X8_command_74 hQ hf)
        · rw [if_neg c5] at hf
          refine sp_iload_n (pc := 51) dX8_command_51 0 rfl ?_
          refine sp_bipush (pc := 52) (v := 109) dX8_command_52 (by decide) ?_
          refine sp_icmp_eq (pc := 54) (tgt := 73) dX8_command_54 (by decide) (fun c6 => ?_) (fun c6 => ?_)
          · rw [if_pos c6] at hf
            refine sp_iconst (pc := 73) (v := 0) dX8_command_73 (by decide) ?_
            exact sp_sub [1, 0] rfl (w_X8_command_74 hQ hf)
          · rw [if_neg c6] at hf
            refine sp_iload_n (pc := 57) dX8_command_57 0 rfl ?_
            refine sp_bipush (pc := 58) (v := 111) dX8_command_58 (by decide) ?_
            refine sp_icmp_eq (pc := 60) (tgt := 73) dX8_command_60 (by decide) (fun c7 => ?_) (fun c7 => ?_)
            · rw [if_pos c7] at hf
              refine sp_iconst (pc := 73) (v := 0) dX8_command_73 (by decide) ?_
              exact sp_sub [1, 0] rfl (w_X8_command_74 hQ hf)
            · rw [if_neg c7] at hf
              refine sp_iload_n (pc := 63) dX8_command_63 0 rfl ?_
              refine sp_bipush (pc := 64) (v := 99) dX8_command_64 (by decide) ?_
              refine sp_icmp_eq (pc := 66) (tgt := 73) dX8_command_66 (by decide) (fun c8 => ?_) (fun c8 => ?_)
              · rw [if_pos c8] at hf
                refine sp_iconst (pc := 73) (v := 0) dX8_command_73 (by decide) ?_
                exact sp_sub [1, 0] rfl (w_X8_command_74 hQ hf)
              · rw [if_neg c8] at hf
                refine sp_iconst (pc := 69) (v := 1) dX8_command_69 (by decide) ?_
                refine sp_goto (pc := 70) (tgt := 74) dX8_command_70 (by decide) ?_
                exact sp_sub [1, 0] rfl (w_X8_command_74 hQ hf)

theorem w_X8_command_0 {l : Launch} {X : SCR} {Q : PST} {bc bs : Nat} {res : HP} {h : HP} (hQ : ∀ sz', Q (.inl none) res sz') {v0 : Nat} {sz : Nat} (hf : b_X8_command_0 v0 h  = some res) : SP l X M_X8_command 0 [(0, .ref v0)] [] h sz bc bs Q := by
  rw [b_X8_command_0] at hf
  refine sp_aload_n (pc := 0) dX8_command_0 0 rfl ?_
  obtain ⟨x1, ex1, hf⟩ := ob hf
  refine sp_gI (pc := 1) fl_RX8_127 dX8_command_1 ex1 ?_
  refine sp_aload_n (pc := 4) dX8_command_4 0 rfl ?_
  obtain ⟨x2, ex2, hf⟩ := ob hf
  refine sp_gI (pc := 5) fl_RX8_121 dX8_command_5 ex2 ?_
  refine sp_icmp_ge (pc := 8) (tgt := 23) dX8_command_8 (by decide) (fun c3 => ?_) (fun c3 => ?_)
  · rw [if_pos c3] at hf
    refine sp_iconst (pc := 23) (v := (-1)) dX8_command_23 (by decide) ?_
    exact (w_X8_command_24 hQ hf)
  · rw [if_neg c3] at hf
    refine sp_aload_n (pc := 11) dX8_command_11 0 rfl ?_
    obtain ⟨x4, ex4, hf⟩ := ob hf
    refine sp_gR (pc := 12) fl_RX8_26 dX8_command_12 ex4 ?_
    refine sp_aload_n (pc := 15) dX8_command_15 0 rfl ?_
    obtain ⟨x5, ex5, hf⟩ := ob hf
    refine sp_gI (pc := 16) fl_RX8_127 dX8_command_16 ex5 ?_
    obtain ⟨x6, ex6, hf⟩ := ob hf
    refine sp_aI (pc := 19) dX8_command_19 ex6 ?_
    refine sp_goto (pc := 20) (tgt := 24) dX8_command_20 (by decide) ?_
    exact (w_X8_command_24 hQ hf)

theorem o_X8_command {h : HP} {v0 : Nat} {res : HP} (hf : f_X8_command h v0 = some res) : ∃ fs, h v0 = some (.inr (8, fs)) := by
  obtain ⟨u, eu, -⟩ := ob hf
  exact kO_spec eu

theorem m_X8_command {l : Launch} {Q : PST} {h : HP} {v0 : Nat} {sz : Nat} {res : HP} (hQ : ∀ sz', Q (.inl none) res sz') (hf : f_X8_command h v0 = some res) : MM l M_X8_command [.ref v0] h sz Q := by
  obtain ⟨u, eu, hf⟩ := ob hf
  exact MM_of wok_X8_command (by decide +kernel) (Nat.le_of_ble_eq_true rfl) ((w_X8_command_0 hQ hf))

theorem dX8_does_0 : decode (mB M_X8_does) 0 = .ok (.aload_n 0, 1) := by decide +kernel
theorem dX8_does_1 : decode (mB M_X8_does) 1 = .ok (.getfield 137, 3) := by decide +kernel
theorem dX8_does_4 : decode (mB M_X8_does) 4 = .ok (.istore_n 1, 1) := by decide +kernel
theorem dX8_does_5 : decode (mB M_X8_does) 5 = .ok (.iload_n 1, 1) := by decide +kernel
theorem dX8_does_6 : decode (mB M_X8_does) 6 = .ok (.bipush 112, 2) := by decide +kernel
theorem dX8_does_8 : decode (mB M_X8_does) 8 = .ok (.if_icmp .ne 18, 3) := by decide +kernel
theorem dX8_does_11 : decode (mB M_X8_does) 11 = .ok (.aload_n 0, 1) := by decide +kernel
theorem dX8_does_12 : decode (mB M_X8_does) 12 = .ok (.aload_n 0, 1) := by decide +kernel
theorem dX8_does_13 : decode (mB M_X8_does) 13 = .ok (.getfield 143, 3) := by decide +kernel
theorem dX8_does_16 : decode (mB M_X8_does) 16 = .ok (.aload_n 0, 1) := by decide +kernel
theorem dX8_does_17 : decode (mB M_X8_does) 17 = .ok (.getfield 146, 3) := by decide +kernel
theorem dX8_does_20 : decode (mB M_X8_does) 20 = .ok (.invokevirtual 149, 3) := by decide +kernel
theorem dX8_does_23 : decode (mB M_X8_does) 23 = .ok (.goto 95, 3) := by decide +kernel
theorem dX8_does_26 : decode (mB M_X8_does) 26 = .ok (.iload_n 1, 1) := by decide +kernel
theorem dX8_does_27 : decode (mB M_X8_does) 27 = .ok (.bipush 120, 2) := by decide +kernel
theorem dX8_does_29 : decode (mB M_X8_does) 29 = .ok (.if_icmp .ne 18, 3) := by decide +kernel
theorem dX8_does_32 : decode (mB M_X8_does) 32 = .ok (.aload_n 0, 1) := by decide +kernel
theorem dX8_does_33 : decode (mB M_X8_does) 33 = .ok (.aload_n 0, 1) := by decide +kernel
theorem dX8_does_34 : decode (mB M_X8_does) 34 = .ok (.getfield 143, 3) := by decide +kernel
theorem dX8_does_37 : decode (mB M_X8_does) 37 = .ok (.aload_n 0, 1) := by decide +kernel
theorem dX8_does_38 : decode (mB M_X8_does) 38 = .ok (.getfield 146, 3) := by decide +kernel
theorem dX8_does_41 : decode (mB M_X8_does) 41 = .ok (.invokevirtual 152, 3) := by decide +kernel
theorem dX8_does_44 : decode (mB M_X8_does) 44 = .ok (.goto 74, 3) := by decide +kernel
theorem dX8_does_47 : decode (mB M_X8_does) 47 = .ok (.iload_n 1, 1) := by decide +kernel
theorem dX8_does_48 : decode (mB M_X8_does) 48 = .ok (.bipush 102, 2) := by decide +kernel
theorem dX8_does_50 : decode (mB M_X8_does) 50 = .ok (.if_icmp .ne 10, 3) := by decide +kernel
theorem dX8_does_53 : decode (mB M_X8_does) 53 = .ok (.aload_n 0, 1) := by decide +kernel
theorem dX8_does_54 : decode (mB M_X8_does) 54 = .ok (.invokevirtual 155, 3) := by decide +kernel
theorem dX8_does_57 : decode (mB M_X8_does) 57 = .ok (.goto 61, 3) := by decide +kernel
theorem dX8_does_60 : decode (mB M_X8_does) 60 = .ok (.iload_n 1, 1) := by decide +kernel
theorem dX8_does_61 : decode (mB M_X8_does) 61 = .ok (.bipush 109, 2) := by decide +kernel
theorem dX8_does_63 : decode (mB M_X8_does) 63 = .ok (.if_icmp .ne 14, 3) := by decide +kernel
theorem dX8_does_66 : decode (mB M_X8_does) 66 = .ok (.aload_n 0, 1) := by decide +kernel
theorem dX8_does_67 : decode (mB M_X8_does) 67 = .ok (.aload_n 0, 1) := by decide +kernel
theorem dX8_does_68 : decode (mB M_X8_does) 68 = .ok (.getfield 143, 3) := by decide +kernel
theorem dX8_does_71 : decode (mB M_X8_does) 71 = .ok (.invokevirtual 158, 3) := by decide +kernel
theorem dX8_does_74 : decode (mB M_X8_does) 74 = .ok (.goto 44, 3) := by decide +kernel
theorem dX8_does_77 : decode (mB M_X8_does) 77 = .ok (.iload_n 1, 1) := by decide +kernel
theorem dX8_does_78 : decode (mB M_X8_does) 78 = .ok (.bipush 111, 2) := by decide +kernel
theorem dX8_does_80 : decode (mB M_X8_does) 80 = .ok (.if_icmp .ne 22, 3) := by decide +kernel
theorem dX8_does_83 : decode (mB M_X8_does) 83 = .ok (.aload_n 0, 1) := by decide +kernel
theorem dX8_does_84 : decode (mB M_X8_does) 84 = .ok (.getfield 7, 3) := by decide +kernel
theorem dX8_does_87 : decode (mB M_X8_does) 87 = .ok (.bipush 7, 2) := by decide +kernel
theorem dX8_does_89 : decode (mB M_X8_does) 89 = .ok (.iaload, 1) := by decide +kernel
theorem dX8_does_90 : decode (mB M_X8_does) 90 = .ok (.iconst 2, 1) := by decide +kernel
theorem dX8_does_91 : decode (mB M_X8_does) 91 = .ok (.if_icmp .ne 7, 3) := by decide +kernel
theorem dX8_does_94 : decode (mB M_X8_does) 94 = .ok (.iconst 1, 1) := by decide +kernel
theorem dX8_does_95 : decode (mB M_X8_does) 95 = .ok (.goto 23, 3) := by decide +kernel
theorem dX8_does_98 : decode (mB M_X8_does) 98 = .ok (.iconst 0, 1) := by decide +kernel
theorem dX8_does_99 : decode (mB M_X8_does) 99 = .ok (.goto 19, 3) := by decide +kernel
theorem dX8_does_102 : decode (mB M_X8_does) 102 = .ok (.aload_n 0, 1) := by decide +kernel
theorem dX8_does_103 : decode (mB M_X8_does) 103 = .ok (.aload_n 0, 1) := by decide +kernel
theorem dX8_does_104 : decode (mB M_X8_does) 104 = .ok (.getfield 143, 3) := by decide +kernel
theorem dX8_does_107 : decode (mB M_X8_does) 107 = .ok (.invokevirtual 161, 3) := by decide +kernel
theorem dX8_does_110 : decode (mB M_X8_does) 110 = .ok (.ifCond .eq 7, 3) := by decide +kernel
theorem dX8_does_113 : decode (mB M_X8_does) 113 = .ok (.iconst 0, 1) := by decide +kernel
theorem dX8_does_114 : decode (mB M_X8_does) 114 = .ok (.goto 4, 3) := by decide +kernel
theorem dX8_does_117 : decode (mB M_X8_does) 117 = .ok (.iconst 1, 1) := by decide +kernel
theorem dX8_does_118 : decode (mB M_X8_does) 118 = .ok (.istore_n 2, 1) := by decide +kernel
theorem dX8_does_119 : decode (mB M_X8_does) 119 = .ok (.iload_n 2, 1) := by decide +kernel
theorem dX8_does_120 : decode (mB M_X8_does) 120 = .ok (.ifCond .ne 101, 3) := by decide +kernel
theorem dX8_does_123 : decode (mB M_X8_does) 123 = .ok (.iload_n 1, 1) := by decide +kernel
theorem dX8_does_124 : decode (mB M_X8_does) 124 = .ok (.bipush 112, 2) := by decide +kernel
theorem dX8_does_126 : decode (mB M_X8_does) 126 = .ok (.if_icmp .ne 22, 3) := by decide +kernel
theorem dX8_does_129 : decode (mB M_X8_does) 129 = .ok (.aload_n 0, 1) := by decide +kernel
theorem dX8_does_130 : decode (mB M_X8_does) 130 = .ok (.aload_n 0, 1) := by decide +kernel
theorem dX8_does_131 : decode (mB M_X8_does) 131 = .ok (.getfield 143, 3) := by decide +kernel
theorem dX8_does_134 : decode (mB M_X8_does) 134 = .ok (.aload_n 0, 1) := by decide +kernel
theorem dX8_does_135 : decode (mB M_X8_does) 135 = .ok (.getfield 143, 3) := by decide +kernel
theorem dX8_does_138 : decode (mB M_X8_does) 138 = .ok (.aload_n 0, 1) := by decide +kernel
theorem dX8_does_139 : decode (mB M_X8_does) 139 = .ok (.getfield 146, 3) := by decide +kernel
theorem dX8_does_142 : decode (mB M_X8_does) 142 = .ok (.invokevirtual 104, 3) := by decide +kernel
theorem dX8_does_145 : decode (mB M_X8_does) 145 = .ok (.goto 75, 3) := by decide +kernel
theorem dX8_does_148 : decode (mB M_X8_does) 148 = .ok (.iload_n 1, 1) := by decide +kernel
theorem dX8_does_149 : decode (mB M_X8_does) 149 = .ok (.bipush 120, 2) := by decide +kernel
theorem dX8_does_151 : decode (mB M_X8_does) 151 = .ok (.if_icmp .ne 18, 3) := by decide +kernel
theorem dX8_does_154 : decode (mB M_X8_does) 154 = .ok (.aload_n 0, 1) := by decide +kernel
theorem dX8_does_155 : decode (mB M_X8_does) 155 = .ok (.aload_n 0, 1) := by decide +kernel
theorem dX8_does_156 : decode (mB M_X8_does) 156 = .ok (.getfield 143, 3) := by decide +kernel
theorem dX8_does_159 : decode (mB M_X8_does) 159 = .ok (.aload_n 0, 1) := by decide +kernel
theorem dX8_does_160 : decode (mB M_X8_does) 160 = .ok (.getfield 146, 3) := by decide +kernel
theorem dX8_does_163 : decode (mB M_X8_does) 163 = .ok (.invokevirtual 164, 3) := by decide +kernel
theorem dX8_does_166 : decode (mB M_X8_does) 166 = .ok (.goto 54, 3) := by decide +kernel
theorem dX8_does_169 : decode (mB M_X8_does) 169 = .ok (.iload_n 1, 1) := by decide +kernel
theorem dX8_does_170 : decode (mB M_X8_does) 170 = .ok (.bipush 102, 2) := by decide +kernel
theorem dX8_does_172 : decode (mB M_X8_does) 172 = .ok (.if_icmp .ne 10, 3) := by decide +kernel
theorem dX8_does_175 : decode (mB M_X8_does) 175 = .ok (.aload_n 0, 1) := by decide +kernel
theorem dX8_does_176 : decode (mB M_X8_does) 176 = .ok (.invokevirtual 167, 3) := by decide +kernel
theorem dX8_does_179 : decode (mB M_X8_does) 179 = .ok (.goto 41, 3) := by decide +kernel
theorem dX8_does_182 : decode (mB M_X8_does) 182 = .ok (.iload_n 1, 1) := by decide +kernel
theorem dX8_does_183 : decode (mB M_X8_does) 183 = .ok (.bipush 109, 2) := by decide +kernel
theorem dX8_does_185 : decode (mB M_X8_does) 185 = .ok (.if_icmp .ne 14, 3) := by decide +kernel
theorem dX8_does_188 : decode (mB M_X8_does) 188 = .ok (.aload_n 0, 1) := by decide +kernel
theorem dX8_does_189 : decode (mB M_X8_does) 189 = .ok (.aload_n 0, 1) := by decide +kernel
theorem dX8_does_190 : decode (mB M_X8_does) 190 = .ok (.getfield 143, 3) := by decide +kernel
theorem dX8_does_193 : decode (mB M_X8_does) 193 = .ok (.invokevirtual 170, 3) := by decide +kernel
theorem dX8_does_196 : decode (mB M_X8_does) 196 = .ok (.goto 24, 3) := by decide +kernel
theorem dX8_does_199 : decode (mB M_X8_does) 199 = .ok (.iload_n 1, 1) := by decide +kernel
theorem dX8_does_200 : decode (mB M_X8_does) 200 = .ok (.bipush 111, 2) := by decide +kernel
theorem dX8_does_202 : decode (mB M_X8_does) 202 = .ok (.if_icmp .ne 10, 3) := by decide +kernel
theorem dX8_does_205 : decode (mB M_X8_does) 205 = .ok (.aload_n 0, 1) := by decide +kernel
theorem dX8_does_206 : decode (mB M_X8_does) 206 = .ok (.invokevirtual 173, 3) := by decide +kernel
theorem dX8_does_209 : decode (mB M_X8_does) 209 = .ok (.goto 11, 3) := by decide +kernel
theorem dX8_does_212 : decode (mB M_X8_does) 212 = .ok (.aload_n 0, 1) := by decide +kernel
theorem dX8_does_213 : decode (mB M_X8_does) 213 = .ok (.aload_n 0, 1) := by decide +kernel
theorem dX8_does_214 : decode (mB M_X8_does) 214 = .ok (.getfield 143, 3) := by decide +kernel
theorem dX8_does_217 : decode (mB M_X8_does) 217 = .ok (.invokevirtual 176, 3) := by decide +kernel
theorem dX8_does_220 : decode (mB M_X8_does) 220 = .ok (.istore_n 3, 1) := by decide +kernel
theorem dX8_does_221 : decode (mB M_X8_does) 221 = .ok (.iload_n 2, 1) := by decide +kernel
theorem dX8_does_222 : decode (mB M_X8_does) 222 = .ok (.ifCond .ne 7, 3) := by decide +kernel
theorem dX8_does_225 : decode (mB M_X8_does) 225 = .ok (.iconst 1, 1) := by decide +kernel
theorem dX8_does_226 : decode (mB M_X8_does) 226 = .ok (.goto 4, 3) := by decide +kernel
theorem dX8_does_229 : decode (mB M_X8_does) 229 = .ok (.iconst 0, 1) := by decide +kernel
theorem dX8_does_230 : decode (mB M_X8_does) 230 = .ok (.ireturn, 1) := by decide +kernel
def b_X8_does_221 (h : HP) (v2 : Int32) : Option (Int32 × HP) :=
  if v2 = 0 then some (1, h) else some (0, h)
def b_X8_does_118 (v0 : Nat) (h : HP) (v1 : Int32) (s0 : Int32) : Option (Int32 × HP) :=
  if s0 = 0 then if v1 = 112 then (gI 8 15 h v0).bind fun x16 => (gI 8 15 h v0).bind fun x17 => (gI 8 16 h v0).bind fun x18 => (f_X8_writes h v0 x16 x17 x18).bind fun y19 => b_X8_does_221 y19.2 s0 else if v1 = 120 then (gI 8 15 h v0).bind fun x13 => (gI 8 16 h v0).bind fun x14 => (f_X8_buries h v0 x13 x14).bind fun y15 => b_X8_does_221 y15.2 s0 else if v1 = 102 then (f_X8_flushes h v0).bind fun y12 => b_X8_does_221 y12.2 s0 else if v1 = 109 then (gI 8 15 h v0).bind fun x10 => (f_X8_merges h v0 x10).bind fun y11 => b_X8_does_221 y11.2 s0 else if v1 = 111 then (f_X8_opens h v0).bind fun y9 => b_X8_does_221 y9.2 s0 else (gI 8 15 h v0).bind fun x7 => (f_X8_closes h v0 x7).bind fun y8 => b_X8_does_221 y8.2 s0 else b_X8_does_221 h s0
def b_X8_does_0 (v0 : Nat) (h : HP) : Option (Int32 × HP) :=
  (gI 8 14 h v0).bind fun x1 => if x1 = 112 then (gI 8 15 h v0).bind fun x19 => (gI 8 16 h v0).bind fun x20 => (f_X8_putFault h v0 x19 x20).bind fun y21 => b_X8_does_118 v0 h x1 y21 else if x1 = 120 then (gI 8 15 h v0).bind fun x16 => (gI 8 16 h v0).bind fun x17 => (f_X8_buryFault h v0 x16 x17).bind fun y18 => b_X8_does_118 v0 h x1 y18 else if x1 = 102 then (f_X8_flushFault h v0).bind fun y15 => b_X8_does_118 v0 y15.2 x1 y15.1 else if x1 = 109 then (gI 8 15 h v0).bind fun x13 => (f_X8_mergeFault h v0 x13).bind fun y14 => b_X8_does_118 v0 y14.2 x1 y14.1 else if x1 = 111 then (gR 8 1 h v0).bind fun x10 => (aI h x10 7).bind fun x11 => if x11 = 2 then b_X8_does_118 v0 h x1 1 else b_X8_does_118 v0 h x1 0 else (gI 8 15 h v0).bind fun x7 => (f_X8_isEye h v0 x7).bind fun y8 => if y8 = 0 then b_X8_does_118 v0 h x1 1 else b_X8_does_118 v0 h x1 0
def f_X8_does (h : HP) (v0 : Nat) : Option (Int32 × HP) := (kO 8 h v0).bind fun _ => b_X8_does_0 v0 h
theorem w_X8_does_221 {l : Launch} {X : SCR} {Q : PST} {bc bs : Nat} {res : Int32 × HP} {h : HP} (hQ : ∀ sz', Q (.inl (some (.int res.1))) res.2 sz') {v2 : Int32} {sz : Nat} (hf : b_X8_does_221 h v2 = some res) : SP l X M_X8_does 221 [(2, .int v2)] [] h sz bc bs Q := by
  rw [b_X8_does_221] at hf
  refine sp_iload_n (pc := 221) dX8_does_221 0 rfl ?_
  refine sp_if_ne (pc := 222) (tgt := 229) dX8_does_222 (by decide) (fun c1 => ?_) (fun c1 => ?_)
  · rw [if_neg c1] at hf
    refine sp_iconst (pc := 229) (v := 0) dX8_does_229 (by decide) ?_
    obtain rfl := Option.some.inj hf
    exact sp_ireturn (pc := 230) dX8_does_230 rfl rfl (hQ _)
  · rw [if_pos c1] at hf
    refine sp_iconst (pc := 225) (v := 1) dX8_does_225 (by decide) ?_
    refine sp_goto (pc := 226) (tgt := 230) dX8_does_226 (by decide) ?_
    obtain rfl := Option.some.inj hf
    exact sp_ireturn (pc := 230) dX8_does_230 rfl rfl (hQ _)

theorem w_X8_does_118 {l : Launch} {X : SCR} {Q : PST} {bc bs : Nat} {res : Int32 × HP} {h : HP} (hQ : ∀ sz', Q (.inl (some (.int res.1))) res.2 sz') {v0 : Nat} {v1 : Int32} {s0 : Int32} {sz : Nat} (hf : b_X8_does_118 v0 h v1 s0 = some res) : SP l X M_X8_does 118 [(0, .ref v0), (1, .int v1)] [.int s0] h sz bc bs Q := by
  rw [b_X8_does_118] at hf
  refine sp_istore_n (pc := 118) (lv' := [(2, .int s0), (0, .ref v0), (1, .int v1)]) dX8_does_118 (by decide) rfl ?_
  refine sp_iload_n (pc := 119) dX8_does_119 0 rfl ?_
  refine sp_if_ne (pc := 120) (tgt := 221) dX8_does_120 (by decide) (fun c1 => ?_) (fun c1 => ?_)
  · rw [if_neg c1] at hf
    exact sp_sub [0] rfl (w_X8_does_221 hQ hf)
  · rw [if_pos c1] at hf
    refine sp_iload_n (pc := 123) dX8_does_123 2 rfl ?_
    refine sp_bipush (pc := 124) (v := 112) dX8_does_124 (by decide) ?_
    refine sp_icmp_ne (pc := 126) (tgt := 148) dX8_does_126 (by decide) (fun c2 => ?_) (fun c2 => ?_)
    · rw [if_neg c2] at hf
      refine sp_iload_n (pc := 148) dX8_does_148 2 rfl ?_
      refine sp_bipush (pc := 149) (v := 120) dX8_does_149 (by decide) ?_
      refine sp_icmp_ne (pc := 151) (tgt := 169) dX8_does_151 (by decide) (fun c3 => ?_) (fun c3 => ?_)
      · rw [if_neg c3] at hf
        refine sp_iload_n (pc := 169) dX8_does_169 2 rfl ?_
        refine sp_bipush (pc := 170) (v := 102) dX8_does_170 (by decide) ?_
        refine sp_icmp_ne (pc := 172) (tgt := 182) dX8_does_172 (by decide) (fun c4 => ?_) (fun c4 => ?_)
        · rw [if_neg c4] at hf
          refine sp_iload_n (pc := 182) dX8_does_182 2 rfl ?_
          refine sp_bipush (pc := 183) (v := 109) dX8_does_183 (by decide) ?_
          refine sp_icmp_ne (pc := 185) (tgt := 199) dX8_does_185 (by decide) (fun c5 => ?_) (fun c5 => ?_)
          · rw [if_neg c5] at hf
            refine sp_iload_n (pc := 199) dX8_does_199 2 rfl ?_
            refine sp_bipush (pc := 200) (v := 111) dX8_does_200 (by decide) ?_
            refine sp_icmp_ne (pc := 202) (tgt := 212) dX8_does_202 (by decide) (fun c6 => ?_) (fun c6 => ?_)
            · rw [if_neg c6] at hf
              refine sp_aload_n (pc := 212) dX8_does_212 1 rfl ?_
              refine sp_aload_n (pc := 213) dX8_does_213 1 rfl ?_
              obtain ⟨x7, ex7, hf⟩ := ob hf
              refine sp_gI (pc := 214) fl_RX8_143 dX8_does_214 ex7 ?_
              obtain ⟨y8, ey8, hf⟩ := ob hf
              obtain ⟨fsy8, hoy8⟩ := o_X8_closes ey8
              refine sp_callVi (pc := 217) (z := M_X8_closes) (As := [.int x7]) (b := v0) (bc2 := bc) (bs2 := bs) (m_X8_closes (Q := _) (fun sz => ⟨y8.1, rfl, ?_⟩) ey8) rfl dX8_does_217 hoy8 rfl rfl ck_X8_does_176 (Nat.le_of_ble_eq_true rfl) rfl rfl rfl
              refine sp_istore_n (pc := 220) (lv' := [(3, .int y8.1), (2, .int s0), (0, .ref v0), (1, .int v1)]) dX8_does_220 (by decide) rfl ?_
              exact sp_sub [1] rfl (w_X8_does_221 hQ hf)
            · rw [if_pos c6] at hf
              refine sp_aload_n (pc := 205) dX8_does_205 1 rfl ?_
              obtain ⟨y9, ey9, hf⟩ := ob hf
              obtain ⟨fsy9, hoy9⟩ := o_X8_opens ey9
              refine sp_callVi (pc := 206) (z := M_X8_opens) (As := []) (b := v0) (bc2 := bc) (bs2 := bs) (m_X8_opens (Q := _) (fun sz => ⟨y9.1, rfl, ?_⟩) ey9) rfl dX8_does_206 hoy9 rfl rfl ck_X8_does_173 (Nat.le_of_ble_eq_true rfl) rfl rfl rfl
              refine sp_goto (pc := 209) (tgt := 220) dX8_does_209 (by decide) ?_
              refine sp_istore_n (pc := 220) (lv' := [(3, .int y9.1), (2, .int s0), (0, .ref v0), (1, .int v1)]) dX8_does_220 (by decide) rfl ?_
              exact sp_sub [1] rfl (w_X8_does_221 hQ hf)
          · rw [if_pos c5] at hf
            refine sp_aload_n (pc := 188) dX8_does_188 1 rfl ?_
            refine sp_aload_n (pc := 189) dX8_does_189 1 rfl ?_
            obtain ⟨x10, ex10, hf⟩ := ob hf
            refine sp_gI (pc := 190) fl_RX8_143 dX8_does_190 ex10 ?_
            obtain ⟨y11, ey11, hf⟩ := ob hf
            obtain ⟨fsy11, hoy11⟩ := o_X8_merges ey11
            refine sp_callVi (pc := 193) (z := M_X8_merges) (As := [.int x10]) (b := v0) (bc2 := bc) (bs2 := bs) (m_X8_merges (Q := _) (fun sz => ⟨y11.1, rfl, ?_⟩) ey11) rfl dX8_does_193 hoy11 rfl rfl ck_X8_does_170 (Nat.le_of_ble_eq_true rfl) rfl rfl rfl
            refine sp_goto (pc := 196) (tgt := 220) dX8_does_196 (by decide) ?_
            refine sp_istore_n (pc := 220) (lv' := [(3, .int y11.1), (2, .int s0), (0, .ref v0), (1, .int v1)]) dX8_does_220 (by decide) rfl ?_
            exact sp_sub [1] rfl (w_X8_does_221 hQ hf)
        · rw [if_pos c4] at hf
          refine sp_aload_n (pc := 175) dX8_does_175 1 rfl ?_
          obtain ⟨y12, ey12, hf⟩ := ob hf
          obtain ⟨fsy12, hoy12⟩ := o_X8_flushes ey12
          refine sp_callVi (pc := 176) (z := M_X8_flushes) (As := []) (b := v0) (bc2 := bc) (bs2 := bs) (m_X8_flushes (Q := _) (fun sz => ⟨y12.1, rfl, ?_⟩) ey12) rfl dX8_does_176 hoy12 rfl rfl ck_X8_does_167 (Nat.le_of_ble_eq_true rfl) rfl rfl rfl
          refine sp_goto (pc := 179) (tgt := 220) dX8_does_179 (by decide) ?_
          refine sp_istore_n (pc := 220) (lv' := [(3, .int y12.1), (2, .int s0), (0, .ref v0), (1, .int v1)]) dX8_does_220 (by decide) rfl ?_
          exact sp_sub [1] rfl (w_X8_does_221 hQ hf)
      · rw [if_pos c3] at hf
        refine sp_aload_n (pc := 154) dX8_does_154 1 rfl ?_
        refine sp_aload_n (pc := 155) dX8_does_155 1 rfl ?_
        obtain ⟨x13, ex13, hf⟩ := ob hf
        refine sp_gI (pc := 156) fl_RX8_143 dX8_does_156 ex13 ?_
        refine sp_aload_n (pc := 159) dX8_does_159 1 rfl ?_
        obtain ⟨x14, ex14, hf⟩ := ob hf
        refine sp_gI (pc := 160) fl_RX8_146 dX8_does_160 ex14 ?_
        obtain ⟨y15, ey15, hf⟩ := ob hf
        obtain ⟨fsy15, hoy15⟩ := o_X8_buries ey15
        refine sp_callVi (pc := 163) (z := M_X8_buries) (As := [.int x13, .int x14]) (b := v0) (bc2 := bc) (bs2 := bs) (m_X8_buries (Q := _) (fun sz => ⟨y15.1, rfl, ?_⟩) ey15) rfl dX8_does_163 hoy15 rfl rfl ck_X8_does_164 (Nat.le_of_ble_eq_true rfl) rfl rfl rfl
        refine sp_goto (pc := 166) (tgt := 220) dX8_does_166 (by decide) ?_
        refine sp_istore_n (pc := 220) (lv' := [(3, .int y15.1), (2, .int s0), (0, .ref v0), (1, .int v1)]) dX8_does_220 (by decide) rfl ?_
        exact sp_sub [1] rfl (w_X8_does_221 hQ hf)
    · rw [if_pos c2] at hf
      refine sp_aload_n (pc := 129) dX8_does_129 1 rfl ?_
      refine sp_aload_n (pc := 130) dX8_does_130 1 rfl ?_
      obtain ⟨x16, ex16, hf⟩ := ob hf
      refine sp_gI (pc := 131) fl_RX8_143 dX8_does_131 ex16 ?_
      refine sp_aload_n (pc := 134) dX8_does_134 1 rfl ?_
      obtain ⟨x17, ex17, hf⟩ := ob hf
      refine sp_gI (pc := 135) fl_RX8_143 dX8_does_135 ex17 ?_
      refine sp_aload_n (pc := 138) dX8_does_138 1 rfl ?_
      obtain ⟨x18, ex18, hf⟩ := ob hf
      refine sp_gI (pc := 139) fl_RX8_146 dX8_does_139 ex18 ?_
      obtain ⟨y19, ey19, hf⟩ := ob hf
      obtain ⟨fsy19, hoy19⟩ := o_X8_writes ey19
      refine sp_callVi (pc := 142) (z := M_X8_writes) (As := [.int x16, .int x17, .int x18]) (b := v0) (bc2 := bc) (bs2 := bs) (m_X8_writes (Q := _) (fun sz => ⟨y19.1, rfl, ?_⟩) ey19) rfl dX8_does_142 hoy19 rfl rfl ck_X8_does_104 (Nat.le_of_ble_eq_true rfl) rfl rfl rfl
      refine sp_goto (pc := 145) (tgt := 220) dX8_does_145 (by decide) ?_
      refine sp_istore_n (pc := 220) (lv' := [(3, .int y19.1), (2, .int s0), (0, .ref v0), (1, .int v1)]) dX8_does_220 (by decide) rfl ?_
      exact sp_sub [1] rfl (w_X8_does_221 hQ hf)

theorem w_X8_does_0 {l : Launch} {X : SCR} {Q : PST} {bc bs : Nat} {res : Int32 × HP} {h : HP} (hQ : ∀ sz', Q (.inl (some (.int res.1))) res.2 sz') {v0 : Nat} {sz : Nat} (hf : b_X8_does_0 v0 h  = some res) : SP l X M_X8_does 0 [(0, .ref v0)] [] h sz bc bs Q := by
  rw [b_X8_does_0] at hf
  refine sp_aload_n (pc := 0) dX8_does_0 0 rfl ?_
  obtain ⟨x1, ex1, hf⟩ := ob hf
  refine sp_gI (pc := 1) fl_RX8_137 dX8_does_1 ex1 ?_
  refine sp_istore_n (pc := 4) (lv' := [(1, .int x1), (0, .ref v0)]) dX8_does_4 (by decide) rfl ?_
  refine sp_iload_n (pc := 5) dX8_does_5 0 rfl ?_
  refine sp_bipush (pc := 6) (v := 112) dX8_does_6 (by decide) ?_
  refine sp_icmp_ne (pc := 8) (tgt := 26) dX8_does_8 (by decide) (fun c2 => ?_) (fun c2 => ?_)
  · rw [if_neg c2] at hf
    refine sp_iload_n (pc := 26) dX8_does_26 0 rfl ?_
    refine sp_bipush (pc := 27) (v := 120) dX8_does_27 (by decide) ?_
    refine sp_icmp_ne (pc := 29) (tgt := 47) dX8_does_29 (by decide) (fun c3 => ?_) (fun c3 => ?_)
    · rw [if_neg c3] at hf
      refine sp_iload_n (pc := 47) dX8_does_47 0 rfl ?_
      refine sp_bipush (pc := 48) (v := 102) dX8_does_48 (by decide) ?_
      refine sp_icmp_ne (pc := 50) (tgt := 60) dX8_does_50 (by decide) (fun c4 => ?_) (fun c4 => ?_)
      · rw [if_neg c4] at hf
        refine sp_iload_n (pc := 60) dX8_does_60 0 rfl ?_
        refine sp_bipush (pc := 61) (v := 109) dX8_does_61 (by decide) ?_
        refine sp_icmp_ne (pc := 63) (tgt := 77) dX8_does_63 (by decide) (fun c5 => ?_) (fun c5 => ?_)
        · rw [if_neg c5] at hf
          refine sp_iload_n (pc := 77) dX8_does_77 0 rfl ?_
          refine sp_bipush (pc := 78) (v := 111) dX8_does_78 (by decide) ?_
          refine sp_icmp_ne (pc := 80) (tgt := 102) dX8_does_80 (by decide) (fun c6 => ?_) (fun c6 => ?_)
          · rw [if_neg c6] at hf
            refine sp_aload_n (pc := 102) dX8_does_102 1 rfl ?_
            refine sp_aload_n (pc := 103) dX8_does_103 1 rfl ?_
            obtain ⟨x7, ex7, hf⟩ := ob hf
            refine sp_gI (pc := 104) fl_RX8_143 dX8_does_104 ex7 ?_
            obtain ⟨y8, ey8, hf⟩ := ob hf
            obtain ⟨fsy8, hoy8⟩ := o_X8_isEye ey8
            refine sp_callVi (pc := 107) (z := M_X8_isEye) (As := [.int x7]) (b := v0) (bc2 := bc) (bs2 := bs) (m_X8_isEye (Q := _) (fun sz => ⟨y8, rfl, ?_⟩) ey8) rfl dX8_does_107 hoy8 rfl rfl ck_X8_does_161 (Nat.le_of_ble_eq_true rfl) rfl rfl rfl
            refine sp_if_eq (pc := 110) (tgt := 117) dX8_does_110 (by decide) (fun c9 => ?_) (fun c9 => ?_)
            · rw [if_pos c9] at hf
              refine sp_iconst (pc := 117) (v := 1) dX8_does_117 (by decide) ?_
              exact sp_sub [1, 0] rfl (w_X8_does_118 hQ hf)
            · rw [if_neg c9] at hf
              refine sp_iconst (pc := 113) (v := 0) dX8_does_113 (by decide) ?_
              refine sp_goto (pc := 114) (tgt := 118) dX8_does_114 (by decide) ?_
              exact sp_sub [1, 0] rfl (w_X8_does_118 hQ hf)
          · rw [if_pos c6] at hf
            refine sp_aload_n (pc := 83) dX8_does_83 1 rfl ?_
            obtain ⟨x10, ex10, hf⟩ := ob hf
            refine sp_gR (pc := 84) fl_RX8_7 dX8_does_84 ex10 ?_
            refine sp_bipush (pc := 87) (v := 7) dX8_does_87 (by decide) ?_
            obtain ⟨x11, ex11, hf⟩ := ob hf
            refine sp_aI (pc := 89) dX8_does_89 ex11 ?_
            refine sp_iconst (pc := 90) (v := 2) dX8_does_90 (by decide) ?_
            refine sp_icmp_ne (pc := 91) (tgt := 98) dX8_does_91 (by decide) (fun c12 => ?_) (fun c12 => ?_)
            · rw [if_neg c12] at hf
              refine sp_iconst (pc := 98) (v := 0) dX8_does_98 (by decide) ?_
              refine sp_goto (pc := 99) (tgt := 118) dX8_does_99 (by decide) ?_
              exact sp_sub [1, 0] rfl (w_X8_does_118 hQ hf)
            · rw [if_pos c12] at hf
              refine sp_iconst (pc := 94) (v := 1) dX8_does_94 (by decide) ?_
              refine sp_goto (pc := 95) (tgt := 118) dX8_does_95 (by decide) ?_
              exact sp_sub [1, 0] rfl (w_X8_does_118 hQ hf)
        · rw [if_pos c5] at hf
          refine sp_aload_n (pc := 66) dX8_does_66 1 rfl ?_
          refine sp_aload_n (pc := 67) dX8_does_67 1 rfl ?_
          obtain ⟨x13, ex13, hf⟩ := ob hf
          refine sp_gI (pc := 68) fl_RX8_143 dX8_does_68 ex13 ?_
          obtain ⟨y14, ey14, hf⟩ := ob hf
          obtain ⟨fsy14, hoy14⟩ := o_X8_mergeFault ey14
          refine sp_callVi (pc := 71) (z := M_X8_mergeFault) (As := [.int x13]) (b := v0) (bc2 := bc) (bs2 := bs) (m_X8_mergeFault (Q := _) (fun sz => ⟨y14.1, rfl, ?_⟩) ey14) rfl dX8_does_71 hoy14 rfl rfl ck_X8_does_158 (Nat.le_of_ble_eq_true rfl) rfl rfl rfl
          refine sp_goto (pc := 74) (tgt := 118) dX8_does_74 (by decide) ?_
          exact sp_sub [1, 0] rfl (w_X8_does_118 hQ hf)
      · rw [if_pos c4] at hf
        refine sp_aload_n (pc := 53) dX8_does_53 1 rfl ?_
        obtain ⟨y15, ey15, hf⟩ := ob hf
        obtain ⟨fsy15, hoy15⟩ := o_X8_flushFault ey15
        refine sp_callVi (pc := 54) (z := M_X8_flushFault) (As := []) (b := v0) (bc2 := bc) (bs2 := bs) (m_X8_flushFault (Q := _) (fun sz => ⟨y15.1, rfl, ?_⟩) ey15) rfl dX8_does_54 hoy15 rfl rfl ck_X8_does_155 (Nat.le_of_ble_eq_true rfl) rfl rfl rfl
        refine sp_goto (pc := 57) (tgt := 118) dX8_does_57 (by decide) ?_
        exact sp_sub [1, 0] rfl (w_X8_does_118 hQ hf)
    · rw [if_pos c3] at hf
      refine sp_aload_n (pc := 32) dX8_does_32 1 rfl ?_
      refine sp_aload_n (pc := 33) dX8_does_33 1 rfl ?_
      obtain ⟨x16, ex16, hf⟩ := ob hf
      refine sp_gI (pc := 34) fl_RX8_143 dX8_does_34 ex16 ?_
      refine sp_aload_n (pc := 37) dX8_does_37 1 rfl ?_
      obtain ⟨x17, ex17, hf⟩ := ob hf
      refine sp_gI (pc := 38) fl_RX8_146 dX8_does_38 ex17 ?_
      obtain ⟨y18, ey18, hf⟩ := ob hf
      obtain ⟨fsy18, hoy18⟩ := o_X8_buryFault ey18
      refine sp_callVi (pc := 41) (z := M_X8_buryFault) (As := [.int x16, .int x17]) (b := v0) (bc2 := bc) (bs2 := bs) (m_X8_buryFault (Q := _) (fun sz => ⟨y18, rfl, ?_⟩) ey18) rfl dX8_does_41 hoy18 rfl rfl ck_X8_does_152 (Nat.le_of_ble_eq_true rfl) rfl rfl rfl
      refine sp_goto (pc := 44) (tgt := 118) dX8_does_44 (by decide) ?_
      exact sp_sub [1, 0] rfl (w_X8_does_118 hQ hf)
  · rw [if_pos c2] at hf
    refine sp_aload_n (pc := 11) dX8_does_11 1 rfl ?_
    refine sp_aload_n (pc := 12) dX8_does_12 1 rfl ?_
    obtain ⟨x19, ex19, hf⟩ := ob hf
    refine sp_gI (pc := 13) fl_RX8_143 dX8_does_13 ex19 ?_
    refine sp_aload_n (pc := 16) dX8_does_16 1 rfl ?_
    obtain ⟨x20, ex20, hf⟩ := ob hf
    refine sp_gI (pc := 17) fl_RX8_146 dX8_does_17 ex20 ?_
    obtain ⟨y21, ey21, hf⟩ := ob hf
    obtain ⟨fsy21, hoy21⟩ := o_X8_putFault ey21
    refine sp_callVi (pc := 20) (z := M_X8_putFault) (As := [.int x19, .int x20]) (b := v0) (bc2 := bc) (bs2 := bs) (m_X8_putFault (Q := _) (fun sz => ⟨y21, rfl, ?_⟩) ey21) rfl dX8_does_20 hoy21 rfl rfl ck_X8_does_149 (Nat.le_of_ble_eq_true rfl) rfl rfl rfl
    refine sp_goto (pc := 23) (tgt := 118) dX8_does_23 (by decide) ?_
    exact sp_sub [1, 0] rfl (w_X8_does_118 hQ hf)

theorem o_X8_does {h : HP} {v0 : Nat} {res : Int32 × HP} (hf : f_X8_does h v0 = some res) : ∃ fs, h v0 = some (.inr (8, fs)) := by
  obtain ⟨u, eu, -⟩ := ob hf
  exact kO_spec eu

theorem m_X8_does {l : Launch} {Q : PST} {h : HP} {v0 : Nat} {sz : Nat} {res : Int32 × HP} (hQ : ∀ sz', Q (.inl (some (.int res.1))) res.2 sz') (hf : f_X8_does h v0 = some res) : MM l M_X8_does [.ref v0] h sz Q := by
  obtain ⟨u, eu, hf⟩ := ob hf
  exact MM_of wok_X8_does (by decide +kernel) (Nat.le_of_ble_eq_true rfl) ((w_X8_does_0 hQ hf))

theorem dX8_go_0 : decode (mB M_X8_go) 0 = .ok (.aload_n 0, 1) := by decide +kernel
theorem dX8_go_1 : decode (mB M_X8_go) 1 = .ok (.iconst 0, 1) := by decide +kernel
theorem dX8_go_2 : decode (mB M_X8_go) 2 = .ok (.putfield 127, 3) := by decide +kernel
theorem dX8_go_5 : decode (mB M_X8_go) 5 = .ok (.aload_n 0, 1) := by decide +kernel
theorem dX8_go_6 : decode (mB M_X8_go) 6 = .ok (.iconst 0, 1) := by decide +kernel
theorem dX8_go_7 : decode (mB M_X8_go) 7 = .ok (.putfield 130, 3) := by decide +kernel
theorem dX8_go_10 : decode (mB M_X8_go) 10 = .ok (.iconst 0, 1) := by decide +kernel
theorem dX8_go_11 : decode (mB M_X8_go) 11 = .ok (.istore_n 2, 1) := by decide +kernel
theorem dX8_go_12 : decode (mB M_X8_go) 12 = .ok (.aload_n 0, 1) := by decide +kernel
theorem dX8_go_13 : decode (mB M_X8_go) 13 = .ok (.bipush 71, 2) := by decide +kernel
theorem dX8_go_15 : decode (mB M_X8_go) 15 = .ok (.bipush 71, 2) := by decide +kernel
theorem dX8_go_17 : decode (mB M_X8_go) 17 = .ok (.invokevirtual 134, 3) := by decide +kernel
theorem dX8_go_20 : decode (mB M_X8_go) 20 = .ok (.istore_n 3, 1) := by decide +kernel
theorem dX8_go_21 : decode (mB M_X8_go) 21 = .ok (.aload_n 0, 1) := by decide +kernel
theorem dX8_go_22 : decode (mB M_X8_go) 22 = .ok (.getfield 130, 3) := by decide +kernel
theorem dX8_go_25 : decode (mB M_X8_go) 25 = .ok (.ifCond .ne 40, 3) := by decide +kernel
theorem dX8_go_28 : decode (mB M_X8_go) 28 = .ok (.aload_n 0, 1) := by decide +kernel
theorem dX8_go_29 : decode (mB M_X8_go) 29 = .ok (.getfield 127, 3) := by decide +kernel
theorem dX8_go_32 : decode (mB M_X8_go) 32 = .ok (.aload_n 0, 1) := by decide +kernel
theorem dX8_go_33 : decode (mB M_X8_go) 33 = .ok (.getfield 121, 3) := by decide +kernel
theorem dX8_go_36 : decode (mB M_X8_go) 36 = .ok (.if_icmp .ge 29, 3) := by decide +kernel
theorem dX8_go_39 : decode (mB M_X8_go) 39 = .ok (.aload_n 0, 1) := by decide +kernel
theorem dX8_go_40 : decode (mB M_X8_go) 40 = .ok (.invokevirtual 179, 3) := by decide +kernel
theorem dX8_go_43 : decode (mB M_X8_go) 43 = .ok (.iload_n 2, 1) := by decide +kernel
theorem dX8_go_44 : decode (mB M_X8_go) 44 = .ok (.iload_n 1, 1) := by decide +kernel
theorem dX8_go_45 : decode (mB M_X8_go) 45 = .ok (.ifCond .eq 14, 3) := by decide +kernel
theorem dX8_go_48 : decode (mB M_X8_go) 48 = .ok (.aload_n 0, 1) := by decide +kernel
theorem dX8_go_49 : decode (mB M_X8_go) 49 = .ok (.invokevirtual 182, 3) := by decide +kernel
theorem dX8_go_52 : decode (mB M_X8_go) 52 = .ok (.ifCond .ne 7, 3) := by decide +kernel
theorem dX8_go_55 : decode (mB M_X8_go) 55 = .ok (.iconst 1, 1) := by decide +kernel
theorem dX8_go_56 : decode (mB M_X8_go) 56 = .ok (.goto 4, 3) := by decide +kernel
theorem dX8_go_59 : decode (mB M_X8_go) 59 = .ok (.iconst 0, 1) := by decide +kernel
theorem dX8_go_60 : decode (mB M_X8_go) 60 = .ok (.iadd, 1) := by decide +kernel
theorem dX8_go_61 : decode (mB M_X8_go) 61 = .ok (.istore_n 2, 1) := by decide +kernel
theorem dX8_go_62 : decode (mB M_X8_go) 62 = .ok (.goto (-41), 3) := by decide +kernel
theorem dX8_go_65 : decode (mB M_X8_go) 65 = .ok (.iload_n 2, 1) := by decide +kernel
theorem dX8_go_66 : decode (mB M_X8_go) 66 = .ok (.ireturn, 1) := by decide +kernel
def c_X8_go_21 (v0 : Nat) (v1 : Int32) (k21 : HP → Int32 → Option (Int32 × HP)) (h : HP) (v2 : Int32) : Option (Int32 × HP) :=
  (gI 8 13 h v0).bind fun x1 => if x1 = 0 then (gI 8 12 h v0).bind fun x3 => (gI 8 8 h v0).bind fun x4 => if x4 ≤ x3 then some (v2, h) else (f_X8_command h v0).bind fun y6 => if v1 = 0 then k21 y6 (v2 + 0) else (f_X8_does y6 v0).bind fun y8 => if y8.1 = 0 then k21 y8.2 (v2 + 1) else k21 y8.2 (v2 + 0) else some (v2, h)
def b_X8_go_21 (v0 : Nat) (v1 : Int32) : Nat → HP → Int32 → Option (Int32 × HP)
  | 0, _, _ => none
  | n + 1, h, v2 => c_X8_go_21 v0 v1 (b_X8_go_21 v0 v1 n) h v2
def b_X8_go_0 (v0 : Nat) (v1 : Int32) (h : HP) : Option (Int32 × HP) :=
  (pI 8 12 h v0 0).bind fun h1 => (pI 8 13 h1 v0 0).bind fun h2 => (f_X8_sign h2 v0 71 71).bind fun y3 => b_X8_go_21 v0 v1 FU y3.2 0
def f_X8_go (h : HP) (v0 : Nat) (v1 : Int32) : Option (Int32 × HP) := (kO 8 h v0).bind fun _ => b_X8_go_0 v0 v1 h
theorem wc_X8_go_21 {l : Launch} {X : SCR} {Q : PST} {bc bs : Nat} {res : Int32 × HP} (hQ : ∀ sz', Q (.inl (some (.int res.1))) res.2 sz') {v0 : Nat} {v1 : Int32} {k21 : HP → Int32 → Option (Int32 × HP)} (hk21 : ∀ (h : HP) (v2 : Int32) (sz : Nat), k21 h v2 = some res → SP l X M_X8_go 21 [(0, .ref v0), (1, .int v1), (2, .int v2)] [] h sz bc bs Q) {h : HP} {v2 : Int32} {sz : Nat} (hf : c_X8_go_21 v0 v1 k21 h v2 = some res) : SP l X M_X8_go 21 [(0, .ref v0), (1, .int v1), (2, .int v2)] [] h sz bc bs Q := by
  rw [c_X8_go_21] at hf
  refine sp_aload_n (pc := 21) dX8_go_21 0 rfl ?_
  obtain ⟨x1, ex1, hf⟩ := ob hf
  refine sp_gI (pc := 22) fl_RX8_130 dX8_go_22 ex1 ?_
  refine sp_if_ne (pc := 25) (tgt := 65) dX8_go_25 (by decide) (fun c2 => ?_) (fun c2 => ?_)
  · rw [if_neg c2] at hf
    refine sp_iload_n (pc := 65) dX8_go_65 2 rfl ?_
    obtain rfl := Option.some.inj hf
    exact sp_ireturn (pc := 66) dX8_go_66 rfl rfl (hQ _)
  · rw [if_pos c2] at hf
    refine sp_aload_n (pc := 28) dX8_go_28 0 rfl ?_
    obtain ⟨x3, ex3, hf⟩ := ob hf
    refine sp_gI (pc := 29) fl_RX8_127 dX8_go_29 ex3 ?_
    refine sp_aload_n (pc := 32) dX8_go_32 0 rfl ?_
    obtain ⟨x4, ex4, hf⟩ := ob hf
    refine sp_gI (pc := 33) fl_RX8_121 dX8_go_33 ex4 ?_
    refine sp_icmp_ge (pc := 36) (tgt := 65) dX8_go_36 (by decide) (fun c5 => ?_) (fun c5 => ?_)
    · rw [if_pos c5] at hf
      refine sp_iload_n (pc := 65) dX8_go_65 2 rfl ?_
      obtain rfl := Option.some.inj hf
      exact sp_ireturn (pc := 66) dX8_go_66 rfl rfl (hQ _)
    · rw [if_neg c5] at hf
      refine sp_aload_n (pc := 39) dX8_go_39 0 rfl ?_
      obtain ⟨y6, ey6, hf⟩ := ob hf
      obtain ⟨fsy6, hoy6⟩ := o_X8_command ey6
      refine sp_callVv (pc := 40) (z := M_X8_command) (As := []) (b := v0) (bc2 := bc) (bs2 := bs) (m_X8_command (Q := _) (fun sz => ⟨(), rfl, ?_⟩) ey6) rfl dX8_go_40 hoy6 rfl rfl ck_X8_go_179 (Nat.le_of_ble_eq_true rfl) rfl rfl rfl
      refine sp_iload_n (pc := 43) dX8_go_43 2 rfl ?_
      refine sp_iload_n (pc := 44) dX8_go_44 1 rfl ?_
      refine sp_if_eq (pc := 45) (tgt := 59) dX8_go_45 (by decide) (fun c7 => ?_) (fun c7 => ?_)
      · rw [if_pos c7] at hf
        refine sp_iconst (pc := 59) (v := 0) dX8_go_59 (by decide) ?_
        refine sp_iadd (pc := 60) dX8_go_60 ?_
        refine sp_istore_n (pc := 61) (lv' := [(2, .int (v2 + 0)), (0, .ref v0), (1, .int v1)]) dX8_go_61 (by decide) rfl ?_
        refine sp_goto (pc := 62) (tgt := 21) dX8_go_62 (by decide) ?_
        exact sp_sub [1, 2, 0] rfl (hk21 _ _ _ hf)
      · rw [if_neg c7] at hf
        refine sp_aload_n (pc := 48) dX8_go_48 0 rfl ?_
        obtain ⟨y8, ey8, hf⟩ := ob hf
        obtain ⟨fsy8, hoy8⟩ := o_X8_does ey8
        refine sp_callVi (pc := 49) (z := M_X8_does) (As := []) (b := v0) (bc2 := bc) (bs2 := bs) (m_X8_does (Q := _) (fun sz => ⟨y8.1, rfl, ?_⟩) ey8) rfl dX8_go_49 hoy8 rfl rfl ck_X8_go_182 (Nat.le_of_ble_eq_true rfl) rfl rfl rfl
        refine sp_if_ne (pc := 52) (tgt := 59) dX8_go_52 (by decide) (fun c9 => ?_) (fun c9 => ?_)
        · rw [if_neg c9] at hf
          refine sp_iconst (pc := 59) (v := 0) dX8_go_59 (by decide) ?_
          refine sp_iadd (pc := 60) dX8_go_60 ?_
          refine sp_istore_n (pc := 61) (lv' := [(2, .int (v2 + 0)), (0, .ref v0), (1, .int v1)]) dX8_go_61 (by decide) rfl ?_
          refine sp_goto (pc := 62) (tgt := 21) dX8_go_62 (by decide) ?_
          exact sp_sub [1, 2, 0] rfl (hk21 _ _ _ hf)
        · rw [if_pos c9] at hf
          refine sp_iconst (pc := 55) (v := 1) dX8_go_55 (by decide) ?_
          refine sp_goto (pc := 56) (tgt := 60) dX8_go_56 (by decide) ?_
          refine sp_iadd (pc := 60) dX8_go_60 ?_
          refine sp_istore_n (pc := 61) (lv' := [(2, .int (v2 + 1)), (0, .ref v0), (1, .int v1)]) dX8_go_61 (by decide) rfl ?_
          refine sp_goto (pc := 62) (tgt := 21) dX8_go_62 (by decide) ?_
          exact sp_sub [1, 2, 0] rfl (hk21 _ _ _ hf)

theorem w_X8_go_21 {l : Launch} {X : SCR} {Q : PST} {bc bs : Nat} {res : Int32 × HP} (hQ : ∀ sz', Q (.inl (some (.int res.1))) res.2 sz') {v0 : Nat} {v1 : Int32} : ∀ (n : Nat) {h : HP} {v2 : Int32} {sz : Nat}, b_X8_go_21 v0 v1 n h v2 = some res → SP l X M_X8_go 21 [(0, .ref v0), (1, .int v1), (2, .int v2)] [] h sz bc bs Q := by
  intro n
  induction n with
  | zero =>
    intro h v2 sz hf
    rw [b_X8_go_21] at hf
    cases hf
  | succ n ih =>
    intro h v2 sz hf
    rw [b_X8_go_21] at hf
    exact wc_X8_go_21 hQ (fun h v2 sz hf => ih hf) hf

theorem w_X8_go_0 {l : Launch} {X : SCR} {Q : PST} {bc bs : Nat} {res : Int32 × HP} {h : HP} (hQ : ∀ sz', Q (.inl (some (.int res.1))) res.2 sz') {v0 : Nat} {v1 : Int32} {sz : Nat} (hf : b_X8_go_0 v0 v1 h  = some res) : SP l X M_X8_go 0 [(0, .ref v0), (1, .int v1)] [] h sz bc bs Q := by
  rw [b_X8_go_0] at hf
  refine sp_aload_n (pc := 0) dX8_go_0 0 rfl ?_
  refine sp_iconst (pc := 1) (v := 0) dX8_go_1 (by decide) ?_
  obtain ⟨h1, eh1, hf⟩ := ob hf
  refine sp_pI (pc := 2) pf_RX8_127 dX8_go_2 eh1 (fun sz => ?_)
  refine sp_aload_n (pc := 5) dX8_go_5 0 rfl ?_
  refine sp_iconst (pc := 6) (v := 0) dX8_go_6 (by decide) ?_
  obtain ⟨h2, eh2, hf⟩ := ob hf
  refine sp_pZ (pc := 7) pf_RX8_130 dX8_go_7 (show bz 0 = some 0 from rfl) eh2 (fun sz => ?_)
  refine sp_iconst (pc := 10) (v := 0) dX8_go_10 (by decide) ?_
  refine sp_istore_n (pc := 11) (lv' := [(2, .int 0), (0, .ref v0), (1, .int v1)]) dX8_go_11 (by decide) rfl ?_
  refine sp_aload_n (pc := 12) dX8_go_12 1 rfl ?_
  refine sp_bipush (pc := 13) (v := 71) dX8_go_13 (by decide) ?_
  refine sp_bipush (pc := 15) (v := 71) dX8_go_15 (by decide) ?_
  obtain ⟨y3, ey3, hf⟩ := ob hf
  obtain ⟨fsy3, hoy3⟩ := o_X8_sign ey3
  refine sp_callVi (pc := 17) (z := M_X8_sign) (As := [.int 71, .int 71]) (b := v0) (bc2 := bc) (bs2 := bs) (m_X8_sign (Q := _) (fun sz => ⟨y3.1, rfl, ?_⟩) ey3) rfl dX8_go_17 hoy3 rfl rfl ck_X8_go_134 (Nat.le_of_ble_eq_true rfl) rfl rfl rfl
  refine sp_istore_n (pc := 20) (lv' := [(3, .int y3.1), (2, .int 0), (0, .ref v0), (1, .int v1)]) dX8_go_20 (by decide) rfl ?_
  exact sp_sub [2, 3, 1] rfl (w_X8_go_21 hQ FU hf)

theorem o_X8_go {h : HP} {v0 : Nat} {v1 : Int32} {res : Int32 × HP} (hf : f_X8_go h v0 v1 = some res) : ∃ fs, h v0 = some (.inr (8, fs)) := by
  obtain ⟨u, eu, -⟩ := ob hf
  exact kO_spec eu

theorem m_X8_go {l : Launch} {Q : PST} {h : HP} {v0 : Nat} {v1 : Int32} {sz : Nat} {res : Int32 × HP} (hQ : ∀ sz', Q (.inl (some (.int res.1))) res.2 sz') (hf : f_X8_go h v0 v1 = some res) : MM l M_X8_go [.ref v0, .int v1] h sz Q := by
  obtain ⟨u, eu, hf⟩ := ob hf
  exact MM_of wok_X8_go (by decide +kernel) (Nat.le_of_ble_eq_true rfl) ((w_X8_go_0 hQ hf))

theorem dX8_errorPosition_0 : decode (mB M_X8_errorPosition) 0 = .ok (.aload_n 0, 1) := by decide +kernel
theorem dX8_errorPosition_1 : decode (mB M_X8_errorPosition) 1 = .ok (.iconst 0, 1) := by decide +kernel
theorem dX8_errorPosition_2 : decode (mB M_X8_errorPosition) 2 = .ok (.putfield 35, 3) := by decide +kernel
theorem dX8_errorPosition_5 : decode (mB M_X8_errorPosition) 5 = .ok (.aload_n 0, 1) := by decide +kernel
theorem dX8_errorPosition_6 : decode (mB M_X8_errorPosition) 6 = .ok (.iconst 0, 1) := by decide +kernel
theorem dX8_errorPosition_7 : decode (mB M_X8_errorPosition) 7 = .ok (.invokevirtual 186, 3) := by decide +kernel
theorem dX8_errorPosition_10 : decode (mB M_X8_errorPosition) 10 = .ok (.istore_n 1, 1) := by decide +kernel
theorem dX8_errorPosition_11 : decode (mB M_X8_errorPosition) 11 = .ok (.aload_n 0, 1) := by decide +kernel
theorem dX8_errorPosition_12 : decode (mB M_X8_errorPosition) 12 = .ok (.getfield 130, 3) := by decide +kernel
theorem dX8_errorPosition_15 : decode (mB M_X8_errorPosition) 15 = .ok (.ifCond .eq 10, 3) := by decide +kernel
theorem dX8_errorPosition_18 : decode (mB M_X8_errorPosition) 18 = .ok (.aload_n 0, 1) := by decide +kernel
theorem dX8_errorPosition_19 : decode (mB M_X8_errorPosition) 19 = .ok (.getfield 127, 3) := by decide +kernel
theorem dX8_errorPosition_22 : decode (mB M_X8_errorPosition) 22 = .ok (.goto 4, 3) := by decide +kernel
theorem dX8_errorPosition_25 : decode (mB M_X8_errorPosition) 25 = .ok (.iconst (-1), 1) := by decide +kernel
theorem dX8_errorPosition_26 : decode (mB M_X8_errorPosition) 26 = .ok (.ireturn, 1) := by decide +kernel
def b_X8_errorPosition_0 (v0 : Nat) (h : HP) : Option (Int32 × HP) :=
  (pI 8 0 h v0 0).bind fun h1 => (f_X8_go h1 v0 0).bind fun y2 => (gI 8 13 y2.2 v0).bind fun x3 => if x3 = 0 then some ((-1), y2.2) else (gI 8 12 y2.2 v0).bind fun x5 => some (x5, y2.2)
def f_X8_errorPosition (h : HP) (v0 : Nat) : Option (Int32 × HP) := (kO 8 h v0).bind fun _ => b_X8_errorPosition_0 v0 h
theorem w_X8_errorPosition_0 {l : Launch} {X : SCR} {Q : PST} {bc bs : Nat} {res : Int32 × HP} {h : HP} (hQ : ∀ sz', Q (.inl (some (.int res.1))) res.2 sz') {v0 : Nat} {sz : Nat} (hf : b_X8_errorPosition_0 v0 h  = some res) : SP l X M_X8_errorPosition 0 [(0, .ref v0)] [] h sz bc bs Q := by
  rw [b_X8_errorPosition_0] at hf
  refine sp_aload_n (pc := 0) dX8_errorPosition_0 0 rfl ?_
  refine sp_iconst (pc := 1) (v := 0) dX8_errorPosition_1 (by decide) ?_
  obtain ⟨h1, eh1, hf⟩ := ob hf
  refine sp_pI (pc := 2) pf_RX8_35 dX8_errorPosition_2 eh1 (fun sz => ?_)
  refine sp_aload_n (pc := 5) dX8_errorPosition_5 0 rfl ?_
  refine sp_iconst (pc := 6) (v := 0) dX8_errorPosition_6 (by decide) ?_
  obtain ⟨y2, ey2, hf⟩ := ob hf
  obtain ⟨fsy2, hoy2⟩ := o_X8_go ey2
  refine sp_callVi (pc := 7) (z := M_X8_go) (As := [.int 0]) (b := v0) (bc2 := bc) (bs2 := bs) (m_X8_go (Q := _) (fun sz => ⟨y2.1, rfl, ?_⟩) ey2) rfl dX8_errorPosition_7 hoy2 rfl rfl ck_X8_errorPosition_186 (Nat.le_of_ble_eq_true rfl) rfl rfl rfl
  refine sp_istore_n (pc := 10) (lv' := [(1, .int y2.1), (0, .ref v0)]) dX8_errorPosition_10 (by decide) rfl ?_
  refine sp_aload_n (pc := 11) dX8_errorPosition_11 1 rfl ?_
  obtain ⟨x3, ex3, hf⟩ := ob hf
  refine sp_gI (pc := 12) fl_RX8_130 dX8_errorPosition_12 ex3 ?_
  refine sp_if_eq (pc := 15) (tgt := 25) dX8_errorPosition_15 (by decide) (fun c4 => ?_) (fun c4 => ?_)
  · rw [if_pos c4] at hf
    refine sp_iconst (pc := 25) (v := (-1)) dX8_errorPosition_25 (by decide) ?_
    obtain rfl := Option.some.inj hf
    exact sp_ireturn (pc := 26) dX8_errorPosition_26 rfl rfl (hQ _)
  · rw [if_neg c4] at hf
    refine sp_aload_n (pc := 18) dX8_errorPosition_18 1 rfl ?_
    obtain ⟨x5, ex5, hf⟩ := ob hf
    refine sp_gI (pc := 19) fl_RX8_127 dX8_errorPosition_19 ex5 ?_
    refine sp_goto (pc := 22) (tgt := 26) dX8_errorPosition_22 (by decide) ?_
    obtain rfl := Option.some.inj hf
    exact sp_ireturn (pc := 26) dX8_errorPosition_26 rfl rfl (hQ _)

theorem o_X8_errorPosition {h : HP} {v0 : Nat} {res : Int32 × HP} (hf : f_X8_errorPosition h v0 = some res) : ∃ fs, h v0 = some (.inr (8, fs)) := by
  obtain ⟨u, eu, -⟩ := ob hf
  exact kO_spec eu

theorem m_X8_errorPosition {l : Launch} {Q : PST} {h : HP} {v0 : Nat} {sz : Nat} {res : Int32 × HP} (hQ : ∀ sz', Q (.inl (some (.int res.1))) res.2 sz') (hf : f_X8_errorPosition h v0 = some res) : MM l M_X8_errorPosition [.ref v0] h sz Q := by
  obtain ⟨u, eu, hf⟩ := ob hf
  exact MM_of wok_X8_errorPosition (by decide +kernel) (Nat.le_of_ble_eq_true rfl) ((w_X8_errorPosition_0 hQ hf))

theorem dX8_load_0 : decode (mB M_X8_load) 0 = .ok (.aload_n 0, 1) := by decide +kernel
theorem dX8_load_1 : decode (mB M_X8_load) 1 = .ok (.iconst 0, 1) := by decide +kernel
theorem dX8_load_2 : decode (mB M_X8_load) 2 = .ok (.invokevirtual 186, 3) := by decide +kernel
theorem dX8_load_5 : decode (mB M_X8_load) 5 = .ok (.istore_n 1, 1) := by decide +kernel
theorem dX8_load_6 : decode (mB M_X8_load) 6 = .ok (.aload_n 0, 1) := by decide +kernel
theorem dX8_load_7 : decode (mB M_X8_load) 7 = .ok (.aload_n 0, 1) := by decide +kernel
theorem dX8_load_8 : decode (mB M_X8_load) 8 = .ok (.getfield 130, 3) := by decide +kernel
theorem dX8_load_11 : decode (mB M_X8_load) 11 = .ok (.ifCond .eq 7, 3) := by decide +kernel
theorem dX8_load_14 : decode (mB M_X8_load) 14 = .ok (.iconst 1, 1) := by decide +kernel
theorem dX8_load_15 : decode (mB M_X8_load) 15 = .ok (.goto 4, 3) := by decide +kernel
theorem dX8_load_18 : decode (mB M_X8_load) 18 = .ok (.iconst 0, 1) := by decide +kernel
theorem dX8_load_19 : decode (mB M_X8_load) 19 = .ok (.invokevirtual 124, 3) := by decide +kernel
theorem dX8_load_22 : decode (mB M_X8_load) 22 = .ok (.ifCond .ne 5, 3) := by decide +kernel
theorem dX8_load_25 : decode (mB M_X8_load) 25 = .ok (.iconst 0, 1) := by decide +kernel
theorem dX8_load_26 : decode (mB M_X8_load) 26 = .ok (.ireturn, 1) := by decide +kernel
theorem dX8_load_27 : decode (mB M_X8_load) 27 = .ok (.iconst 0, 1) := by decide +kernel
theorem dX8_load_28 : decode (mB M_X8_load) 28 = .ok (.istore_n 2, 1) := by decide +kernel
theorem dX8_load_29 : decode (mB M_X8_load) 29 = .ok (.iload_n 2, 1) := by decide +kernel
theorem dX8_load_30 : decode (mB M_X8_load) 30 = .ok (.sipush 204, 3) := by decide +kernel
theorem dX8_load_33 : decode (mB M_X8_load) 33 = .ok (.if_icmp .ge 16, 3) := by decide +kernel
theorem dX8_load_36 : decode (mB M_X8_load) 36 = .ok (.aload_n 0, 1) := by decide +kernel
theorem dX8_load_37 : decode (mB M_X8_load) 37 = .ok (.getfield 7, 3) := by decide +kernel
theorem dX8_load_40 : decode (mB M_X8_load) 40 = .ok (.iload_n 2, 1) := by decide +kernel
theorem dX8_load_41 : decode (mB M_X8_load) 41 = .ok (.iconst 0, 1) := by decide +kernel
theorem dX8_load_42 : decode (mB M_X8_load) 42 = .ok (.iastore, 1) := by decide +kernel
theorem dX8_load_43 : decode (mB M_X8_load) 43 = .ok (.iinc 2 1, 3) := by decide +kernel
theorem dX8_load_46 : decode (mB M_X8_load) 46 = .ok (.goto (-17), 3) := by decide +kernel
theorem dX8_load_49 : decode (mB M_X8_load) 49 = .ok (.aload_n 0, 1) := by decide +kernel
theorem dX8_load_50 : decode (mB M_X8_load) 50 = .ok (.iconst 0, 1) := by decide +kernel
theorem dX8_load_51 : decode (mB M_X8_load) 51 = .ok (.putfield 43, 3) := by decide +kernel
theorem dX8_load_54 : decode (mB M_X8_load) 54 = .ok (.aload_n 0, 1) := by decide +kernel
theorem dX8_load_55 : decode (mB M_X8_load) 55 = .ok (.getfield 22, 3) := by decide +kernel
theorem dX8_load_58 : decode (mB M_X8_load) 58 = .ok (.iconst 0, 1) := by decide +kernel
theorem dX8_load_59 : decode (mB M_X8_load) 59 = .ok (.iconst 0, 1) := by decide +kernel
theorem dX8_load_60 : decode (mB M_X8_load) 60 = .ok (.bastore, 1) := by decide +kernel
theorem dX8_load_61 : decode (mB M_X8_load) 61 = .ok (.aload_n 0, 1) := by decide +kernel
theorem dX8_load_62 : decode (mB M_X8_load) 62 = .ok (.getfield 22, 3) := by decide +kernel
theorem dX8_load_65 : decode (mB M_X8_load) 65 = .ok (.iconst 1, 1) := by decide +kernel
theorem dX8_load_66 : decode (mB M_X8_load) 66 = .ok (.iconst 0, 1) := by decide +kernel
theorem dX8_load_67 : decode (mB M_X8_load) 67 = .ok (.bastore, 1) := by decide +kernel
theorem dX8_load_68 : decode (mB M_X8_load) 68 = .ok (.aload_n 0, 1) := by decide +kernel
theorem dX8_load_69 : decode (mB M_X8_load) 69 = .ok (.iconst 1, 1) := by decide +kernel
theorem dX8_load_70 : decode (mB M_X8_load) 70 = .ok (.invokevirtual 186, 3) := by decide +kernel
theorem dX8_load_73 : decode (mB M_X8_load) 73 = .ok (.ireturn, 1) := by decide +kernel
def c_X8_load_29 (v0 : Nat) (k29 : HP → Int32 → Option (Int32 × HP)) (h : HP) (v2 : Int32) : Option (Int32 × HP) :=
  if 204 ≤ v2 then (pI 8 4 h v0 0).bind fun h2 => (gR 8 6 h2 v0).bind fun x3 => (wZ h2 x3 0 0).bind fun h4 => (gR 8 6 h4 v0).bind fun x5 => (wZ h4 x5 1 0).bind fun h6 => (f_X8_go h6 v0 1).bind fun y7 => some (y7.1, y7.2) else (gR 8 1 h v0).bind fun x8 => (wI h x8 v2 0).bind fun h9 => k29 h9 (v2 + 1)
def b_X8_load_29 (v0 : Nat) : Nat → HP → Int32 → Option (Int32 × HP)
  | 0, _, _ => none
  | n + 1, h, v2 => c_X8_load_29 v0 (b_X8_load_29 v0 n) h v2
def b_X8_load_19 (v0 : Nat) (h : HP) (s0 : Nat) (s1 : Int32) : Option (Int32 × HP) :=
  (f_X8_holds h s0 s1).bind fun y1 => if y1.1 = 0 then some (0, y1.2) else b_X8_load_29 v0 FU y1.2 0
def b_X8_load_0 (v0 : Nat) (h : HP) : Option (Int32 × HP) :=
  (f_X8_go h v0 0).bind fun y1 => (gI 8 13 y1.2 v0).bind fun x2 => if x2 = 0 then b_X8_load_19 v0 y1.2 v0 0 else b_X8_load_19 v0 y1.2 v0 1
def f_X8_load (h : HP) (v0 : Nat) : Option (Int32 × HP) := (kO 8 h v0).bind fun _ => b_X8_load_0 v0 h
theorem wc_X8_load_29 {l : Launch} {X : SCR} {Q : PST} {bc bs : Nat} {res : Int32 × HP} (hQ : ∀ sz', Q (.inl (some (.int res.1))) res.2 sz') {v0 : Nat} {k29 : HP → Int32 → Option (Int32 × HP)} (hk29 : ∀ (h : HP) (v2 : Int32) (sz : Nat), k29 h v2 = some res → SP l X M_X8_load 29 [(0, .ref v0), (2, .int v2)] [] h sz bc bs Q) {h : HP} {v2 : Int32} {sz : Nat} (hf : c_X8_load_29 v0 k29 h v2 = some res) : SP l X M_X8_load 29 [(0, .ref v0), (2, .int v2)] [] h sz bc bs Q := by
  rw [c_X8_load_29] at hf
  refine sp_iload_n (pc := 29) dX8_load_29 1 rfl ?_
  refine sp_sipush (pc := 30) (v := 204) dX8_load_30 (by decide) ?_
  refine sp_icmp_ge (pc := 33) (tgt := 49) dX8_load_33 (by decide) (fun c1 => ?_) (fun c1 => ?_)
  · rw [if_pos c1] at hf
    refine sp_aload_n (pc := 49) dX8_load_49 0 rfl ?_
    refine sp_iconst (pc := 50) (v := 0) dX8_load_50 (by decide) ?_
    obtain ⟨h2, eh2, hf⟩ := ob hf
    refine sp_pI (pc := 51) pf_RX8_43 dX8_load_51 eh2 (fun sz => ?_)
    refine sp_aload_n (pc := 54) dX8_load_54 0 rfl ?_
    obtain ⟨x3, ex3, hf⟩ := ob hf
    refine sp_gR (pc := 55) fl_RX8_22 dX8_load_55 ex3 ?_
    refine sp_iconst (pc := 58) (v := 0) dX8_load_58 (by decide) ?_
    refine sp_iconst (pc := 59) (v := 0) dX8_load_59 (by decide) ?_
    obtain ⟨h4, eh4, hf⟩ := ob hf
    refine sp_wZ (pc := 60) dX8_load_60 eh4 (fun sz => ?_)
    refine sp_aload_n (pc := 61) dX8_load_61 0 rfl ?_
    obtain ⟨x5, ex5, hf⟩ := ob hf
    refine sp_gR (pc := 62) fl_RX8_22 dX8_load_62 ex5 ?_
    refine sp_iconst (pc := 65) (v := 1) dX8_load_65 (by decide) ?_
    refine sp_iconst (pc := 66) (v := 0) dX8_load_66 (by decide) ?_
    obtain ⟨h6, eh6, hf⟩ := ob hf
    refine sp_wZ (pc := 67) dX8_load_67 eh6 (fun sz => ?_)
    refine sp_aload_n (pc := 68) dX8_load_68 0 rfl ?_
    refine sp_iconst (pc := 69) (v := 1) dX8_load_69 (by decide) ?_
    obtain ⟨y7, ey7, hf⟩ := ob hf
    obtain ⟨fsy7, hoy7⟩ := o_X8_go ey7
    refine sp_callVi (pc := 70) (z := M_X8_go) (As := [.int 1]) (b := v0) (bc2 := bc) (bs2 := bs) (m_X8_go (Q := _) (fun sz => ⟨y7.1, rfl, ?_⟩) ey7) rfl dX8_load_70 hoy7 rfl rfl ck_X8_load_186 (Nat.le_of_ble_eq_true rfl) rfl rfl rfl
    obtain rfl := Option.some.inj hf
    exact sp_ireturn (pc := 73) dX8_load_73 rfl rfl (hQ _)
  · rw [if_neg c1] at hf
    refine sp_aload_n (pc := 36) dX8_load_36 0 rfl ?_
    obtain ⟨x8, ex8, hf⟩ := ob hf
    refine sp_gR (pc := 37) fl_RX8_7 dX8_load_37 ex8 ?_
    refine sp_iload_n (pc := 40) dX8_load_40 1 rfl ?_
    refine sp_iconst (pc := 41) (v := 0) dX8_load_41 (by decide) ?_
    obtain ⟨h9, eh9, hf⟩ := ob hf
    refine sp_wI (pc := 42) dX8_load_42 eh9 (fun sz => ?_)
    refine sp_iinc (pc := 43) (v := v2 + 1) (lv' := [(2, .int (v2 + 1)), (0, .ref v0)]) dX8_load_43 1 rfl rfl (by decide) rfl ?_
    refine sp_goto (pc := 46) (tgt := 29) dX8_load_46 (by decide) ?_
    exact sp_sub [1, 0] rfl (hk29 _ _ _ hf)

theorem w_X8_load_29 {l : Launch} {X : SCR} {Q : PST} {bc bs : Nat} {res : Int32 × HP} (hQ : ∀ sz', Q (.inl (some (.int res.1))) res.2 sz') {v0 : Nat} : ∀ (n : Nat) {h : HP} {v2 : Int32} {sz : Nat}, b_X8_load_29 v0 n h v2 = some res → SP l X M_X8_load 29 [(0, .ref v0), (2, .int v2)] [] h sz bc bs Q := by
  intro n
  induction n with
  | zero =>
    intro h v2 sz hf
    rw [b_X8_load_29] at hf
    cases hf
  | succ n ih =>
    intro h v2 sz hf
    rw [b_X8_load_29] at hf
    exact wc_X8_load_29 hQ (fun h v2 sz hf => ih hf) hf

theorem w_X8_load_19 {l : Launch} {X : SCR} {Q : PST} {bc bs : Nat} {res : Int32 × HP} {h : HP} (hQ : ∀ sz', Q (.inl (some (.int res.1))) res.2 sz') {v0 : Nat} {s0 : Nat} {s1 : Int32} {sz : Nat} (hf : b_X8_load_19 v0 h s0 s1 = some res) : SP l X M_X8_load 19 [(0, .ref v0)] [.int s1, .ref s0] h sz bc bs Q := by
  rw [b_X8_load_19] at hf
  obtain ⟨y1, ey1, hf⟩ := ob hf
  obtain ⟨fsy1, hoy1⟩ := o_X8_holds ey1
  refine sp_callVi (pc := 19) (z := M_X8_holds) (As := [.int s1]) (b := s0) (bc2 := bc) (bs2 := bs) (m_X8_holds (Q := _) (fun sz => ⟨y1.1, rfl, ?_⟩) ey1) rfl dX8_load_19 hoy1 rfl rfl ck_X8_load_124 (Nat.le_of_ble_eq_true rfl) rfl rfl rfl
  refine sp_if_ne (pc := 22) (tgt := 27) dX8_load_22 (by decide) (fun c2 => ?_) (fun c2 => ?_)
  · rw [if_neg c2] at hf
    refine sp_iconst (pc := 27) (v := 0) dX8_load_27 (by decide) ?_
    refine sp_istore_n (pc := 28) (lv' := [(2, .int 0), (0, .ref v0)]) dX8_load_28 (by decide) rfl ?_
    exact sp_sub [1, 0] rfl (w_X8_load_29 hQ FU hf)
  · rw [if_pos c2] at hf
    refine sp_iconst (pc := 25) (v := 0) dX8_load_25 (by decide) ?_
    obtain rfl := Option.some.inj hf
    exact sp_ireturn (pc := 26) dX8_load_26 rfl rfl (hQ _)

theorem w_X8_load_0 {l : Launch} {X : SCR} {Q : PST} {bc bs : Nat} {res : Int32 × HP} {h : HP} (hQ : ∀ sz', Q (.inl (some (.int res.1))) res.2 sz') {v0 : Nat} {sz : Nat} (hf : b_X8_load_0 v0 h  = some res) : SP l X M_X8_load 0 [(0, .ref v0)] [] h sz bc bs Q := by
  rw [b_X8_load_0] at hf
  refine sp_aload_n (pc := 0) dX8_load_0 0 rfl ?_
  refine sp_iconst (pc := 1) (v := 0) dX8_load_1 (by decide) ?_
  obtain ⟨y1, ey1, hf⟩ := ob hf
  obtain ⟨fsy1, hoy1⟩ := o_X8_go ey1
  refine sp_callVi (pc := 2) (z := M_X8_go) (As := [.int 0]) (b := v0) (bc2 := bc) (bs2 := bs) (m_X8_go (Q := _) (fun sz => ⟨y1.1, rfl, ?_⟩) ey1) rfl dX8_load_2 hoy1 rfl rfl ck_X8_load_186 (Nat.le_of_ble_eq_true rfl) rfl rfl rfl
  refine sp_istore_n (pc := 5) (lv' := [(1, .int y1.1), (0, .ref v0)]) dX8_load_5 (by decide) rfl ?_
  refine sp_aload_n (pc := 6) dX8_load_6 1 rfl ?_
  refine sp_aload_n (pc := 7) dX8_load_7 1 rfl ?_
  obtain ⟨x2, ex2, hf⟩ := ob hf
  refine sp_gI (pc := 8) fl_RX8_130 dX8_load_8 ex2 ?_
  refine sp_if_eq (pc := 11) (tgt := 18) dX8_load_11 (by decide) (fun c3 => ?_) (fun c3 => ?_)
  · rw [if_pos c3] at hf
    refine sp_iconst (pc := 18) (v := 0) dX8_load_18 (by decide) ?_
    exact sp_sub [1] rfl (w_X8_load_19 hQ hf)
  · rw [if_neg c3] at hf
    refine sp_iconst (pc := 14) (v := 1) dX8_load_14 (by decide) ?_
    refine sp_goto (pc := 15) (tgt := 19) dX8_load_15 (by decide) ?_
    exact sp_sub [1] rfl (w_X8_load_19 hQ hf)

theorem o_X8_load {h : HP} {v0 : Nat} {res : Int32 × HP} (hf : f_X8_load h v0 = some res) : ∃ fs, h v0 = some (.inr (8, fs)) := by
  obtain ⟨u, eu, -⟩ := ob hf
  exact kO_spec eu

theorem m_X8_load {l : Launch} {Q : PST} {h : HP} {v0 : Nat} {sz : Nat} {res : Int32 × HP} (hQ : ∀ sz', Q (.inl (some (.int res.1))) res.2 sz') (hf : f_X8_load h v0 = some res) : MM l M_X8_load [.ref v0] h sz Q := by
  obtain ⟨u, eu, hf⟩ := ob hf
  exact MM_of wok_X8_load (by decide +kernel) (Nat.le_of_ble_eq_true rfl) ((w_X8_load_0 hQ hf))

theorem dX8_sumSeen_0 : decode (mB M_X8_sumSeen) 0 = .ok (.iconst 0, 1) := by decide +kernel
theorem dX8_sumSeen_1 : decode (mB M_X8_sumSeen) 1 = .ok (.istore_n 1, 1) := by decide +kernel
theorem dX8_sumSeen_2 : decode (mB M_X8_sumSeen) 2 = .ok (.iconst 0, 1) := by decide +kernel
theorem dX8_sumSeen_3 : decode (mB M_X8_sumSeen) 3 = .ok (.istore_n 2, 1) := by decide +kernel
theorem dX8_sumSeen_4 : decode (mB M_X8_sumSeen) 4 = .ok (.iload_n 2, 1) := by decide +kernel
theorem dX8_sumSeen_5 : decode (mB M_X8_sumSeen) 5 = .ok (.bipush 100, 2) := by decide +kernel
theorem dX8_sumSeen_7 : decode (mB M_X8_sumSeen) 7 = .ok (.if_icmp .ge 29, 3) := by decide +kernel
theorem dX8_sumSeen_10 : decode (mB M_X8_sumSeen) 10 = .ok (.aload_n 0, 1) := by decide +kernel
theorem dX8_sumSeen_11 : decode (mB M_X8_sumSeen) 11 = .ok (.iload_n 2, 1) := by decide +kernel
theorem dX8_sumSeen_12 : decode (mB M_X8_sumSeen) 12 = .ok (.iconst (-1), 1) := by decide +kernel
theorem dX8_sumSeen_13 : decode (mB M_X8_sumSeen) 13 = .ok (.invokevirtual 72, 3) := by decide +kernel
theorem dX8_sumSeen_16 : decode (mB M_X8_sumSeen) 16 = .ok (.istore_n 3, 1) := by decide +kernel
theorem dX8_sumSeen_17 : decode (mB M_X8_sumSeen) 17 = .ok (.iload_n 1, 1) := by decide +kernel
theorem dX8_sumSeen_18 : decode (mB M_X8_sumSeen) 18 = .ok (.iload_n 3, 1) := by decide +kernel
theorem dX8_sumSeen_19 : decode (mB M_X8_sumSeen) 19 = .ok (.iconst (-1), 1) := by decide +kernel
theorem dX8_sumSeen_20 : decode (mB M_X8_sumSeen) 20 = .ok (.if_icmp .ne 7, 3) := by decide +kernel
theorem dX8_sumSeen_23 : decode (mB M_X8_sumSeen) 23 = .ok (.iconst 0, 1) := by decide +kernel
theorem dX8_sumSeen_24 : decode (mB M_X8_sumSeen) 24 = .ok (.goto 4, 3) := by decide +kernel
theorem dX8_sumSeen_27 : decode (mB M_X8_sumSeen) 27 = .ok (.iload_n 3, 1) := by decide +kernel
theorem dX8_sumSeen_28 : decode (mB M_X8_sumSeen) 28 = .ok (.iadd, 1) := by decide +kernel
theorem dX8_sumSeen_29 : decode (mB M_X8_sumSeen) 29 = .ok (.istore_n 1, 1) := by decide +kernel
theorem dX8_sumSeen_30 : decode (mB M_X8_sumSeen) 30 = .ok (.iinc 2 1, 3) := by decide +kernel
theorem dX8_sumSeen_33 : decode (mB M_X8_sumSeen) 33 = .ok (.goto (-29), 3) := by decide +kernel
theorem dX8_sumSeen_36 : decode (mB M_X8_sumSeen) 36 = .ok (.iload_n 1, 1) := by decide +kernel
theorem dX8_sumSeen_37 : decode (mB M_X8_sumSeen) 37 = .ok (.ireturn, 1) := by decide +kernel
def c_X8_sumSeen_4 (h : HP) (v0 : Nat) (k4 : Int32 → Int32 → Option (Int32)) (v1 : Int32) (v2 : Int32) : Option (Int32) :=
  if 100 ≤ v2 then some (v1) else (f_X8_seen h v0 v2 (-1)).bind fun y2 => if y2 = (-1) then k4 (v1 + 0) (v2 + 1) else k4 (v1 + y2) (v2 + 1)
def b_X8_sumSeen_4 (h : HP) (v0 : Nat) : Nat → Int32 → Int32 → Option (Int32)
  | 0, _, _ => none
  | n + 1, v1, v2 => c_X8_sumSeen_4 h v0 (b_X8_sumSeen_4 h v0 n) v1 v2
def b_X8_sumSeen_0 (h : HP) (v0 : Nat) : Option (Int32) :=
  b_X8_sumSeen_4 h v0 FU 0 0
def f_X8_sumSeen (h : HP) (v0 : Nat) : Option (Int32) := (kO 8 h v0).bind fun _ => b_X8_sumSeen_0 h v0
theorem wc_X8_sumSeen_4 {l : Launch} {X : SCR} {Q : PST} {bc bs : Nat} {res : Int32} {h : HP} (hQ : ∀ sz', Q (.inl (some (.int res))) h sz') {v0 : Nat} {k4 : Int32 → Int32 → Option (Int32)} (hk4 : ∀ (v1 : Int32) (v2 : Int32) (sz : Nat), k4 v1 v2 = some res → SP l X M_X8_sumSeen 4 [(0, .ref v0), (1, .int v1), (2, .int v2)] [] h sz bc bs Q) {v1 : Int32} {v2 : Int32} {sz : Nat} (hf : c_X8_sumSeen_4 h v0 k4 v1 v2 = some res) : SP l X M_X8_sumSeen 4 [(0, .ref v0), (1, .int v1), (2, .int v2)] [] h sz bc bs Q := by
  rw [c_X8_sumSeen_4] at hf
  refine sp_iload_n (pc := 4) dX8_sumSeen_4 2 rfl ?_
  refine sp_bipush (pc := 5) (v := 100) dX8_sumSeen_5 (by decide) ?_
  refine sp_icmp_ge (pc := 7) (tgt := 36) dX8_sumSeen_7 (by decide) (fun c1 => ?_) (fun c1 => ?_)
  · rw [if_pos c1] at hf
    refine sp_iload_n (pc := 36) dX8_sumSeen_36 1 rfl ?_
    obtain rfl := Option.some.inj hf
    exact sp_ireturn (pc := 37) dX8_sumSeen_37 rfl rfl (hQ _)
  · rw [if_neg c1] at hf
    refine sp_aload_n (pc := 10) dX8_sumSeen_10 0 rfl ?_
    refine sp_iload_n (pc := 11) dX8_sumSeen_11 2 rfl ?_
    refine sp_iconst (pc := 12) (v := (-1)) dX8_sumSeen_12 (by decide) ?_
    obtain ⟨y2, ey2, hf⟩ := ob hf
    obtain ⟨fsy2, hoy2⟩ := o_X8_seen ey2
    refine sp_callVi (pc := 13) (z := M_X8_seen) (As := [.int v2, .int (-1)]) (b := v0) (bc2 := bc) (bs2 := bs) (m_X8_seen (Q := _) (fun sz => ⟨y2, rfl, ?_⟩) ey2) rfl dX8_sumSeen_13 hoy2 rfl rfl ck_X8_sumSeen_72 (Nat.le_of_ble_eq_true rfl) rfl rfl rfl
    refine sp_istore_n (pc := 16) (lv' := [(3, .int y2), (0, .ref v0), (1, .int v1), (2, .int v2)]) dX8_sumSeen_16 (by decide) rfl ?_
    refine sp_iload_n (pc := 17) dX8_sumSeen_17 2 rfl ?_
    refine sp_iload_n (pc := 18) dX8_sumSeen_18 0 rfl ?_
    refine sp_iconst (pc := 19) (v := (-1)) dX8_sumSeen_19 (by decide) ?_
    refine sp_icmp_ne (pc := 20) (tgt := 27) dX8_sumSeen_20 (by decide) (fun c3 => ?_) (fun c3 => ?_)
    · rw [if_neg c3] at hf
      refine sp_iload_n (pc := 27) dX8_sumSeen_27 0 rfl ?_
      refine sp_iadd (pc := 28) dX8_sumSeen_28 ?_
      refine sp_istore_n (pc := 29) (lv' := [(1, .int (v1 + y2)), (3, .int y2), (0, .ref v0), (2, .int v2)]) dX8_sumSeen_29 (by decide) rfl ?_
      refine sp_iinc (pc := 30) (v := v2 + 1) (lv' := [(2, .int (v2 + 1)), (1, .int (v1 + y2)), (3, .int y2), (0, .ref v0)]) dX8_sumSeen_30 3 rfl rfl (by decide) rfl ?_
      refine sp_goto (pc := 33) (tgt := 4) dX8_sumSeen_33 (by decide) ?_
      exact sp_sub [3, 1, 0] rfl (hk4 _ _ _ hf)
    · rw [if_pos c3] at hf
      refine sp_iconst (pc := 23) (v := 0) dX8_sumSeen_23 (by decide) ?_
      refine sp_goto (pc := 24) (tgt := 28) dX8_sumSeen_24 (by decide) ?_
      refine sp_iadd (pc := 28) dX8_sumSeen_28 ?_
      refine sp_istore_n (pc := 29) (lv' := [(1, .int (v1 + 0)), (3, .int y2), (0, .ref v0), (2, .int v2)]) dX8_sumSeen_29 (by decide) rfl ?_
      refine sp_iinc (pc := 30) (v := v2 + 1) (lv' := [(2, .int (v2 + 1)), (1, .int (v1 + 0)), (3, .int y2), (0, .ref v0)]) dX8_sumSeen_30 3 rfl rfl (by decide) rfl ?_
      refine sp_goto (pc := 33) (tgt := 4) dX8_sumSeen_33 (by decide) ?_
      exact sp_sub [3, 1, 0] rfl (hk4 _ _ _ hf)

theorem w_X8_sumSeen_4 {l : Launch} {X : SCR} {Q : PST} {bc bs : Nat} {res : Int32} {h : HP} (hQ : ∀ sz', Q (.inl (some (.int res))) h sz') {v0 : Nat} : ∀ (n : Nat) {v1 : Int32} {v2 : Int32} {sz : Nat}, b_X8_sumSeen_4 h v0 n v1 v2 = some res → SP l X M_X8_sumSeen 4 [(0, .ref v0), (1, .int v1), (2, .int v2)] [] h sz bc bs Q := by
  intro n
  induction n with
  | zero =>
    intro v1 v2 sz hf
    rw [b_X8_sumSeen_4] at hf
    cases hf
  | succ n ih =>
    intro v1 v2 sz hf
    rw [b_X8_sumSeen_4] at hf
    exact wc_X8_sumSeen_4 hQ (fun v1 v2 sz hf => ih hf) hf

theorem w_X8_sumSeen_0 {l : Launch} {X : SCR} {Q : PST} {bc bs : Nat} {res : Int32} {h : HP} (hQ : ∀ sz', Q (.inl (some (.int res))) h sz') {v0 : Nat} {sz : Nat} (hf : b_X8_sumSeen_0 h v0  = some res) : SP l X M_X8_sumSeen 0 [(0, .ref v0)] [] h sz bc bs Q := by
  rw [b_X8_sumSeen_0] at hf
  refine sp_iconst (pc := 0) (v := 0) dX8_sumSeen_0 (by decide) ?_
  refine sp_istore_n (pc := 1) (lv' := [(1, .int 0), (0, .ref v0)]) dX8_sumSeen_1 (by decide) rfl ?_
  refine sp_iconst (pc := 2) (v := 0) dX8_sumSeen_2 (by decide) ?_
  refine sp_istore_n (pc := 3) (lv' := [(2, .int 0), (1, .int 0), (0, .ref v0)]) dX8_sumSeen_3 (by decide) rfl ?_
  exact sp_sub [2, 1, 0] rfl (w_X8_sumSeen_4 hQ FU hf)

theorem o_X8_sumSeen {h : HP} {v0 : Nat} {res : Int32} (hf : f_X8_sumSeen h v0 = some res) : ∃ fs, h v0 = some (.inr (8, fs)) := by
  obtain ⟨u, eu, -⟩ := ob hf
  exact kO_spec eu

theorem m_X8_sumSeen {l : Launch} {Q : PST} {h : HP} {v0 : Nat} {sz : Nat} {res : Int32} (hQ : ∀ sz', Q (.inl (some (.int res))) h sz') (hf : f_X8_sumSeen h v0 = some res) : MM l M_X8_sumSeen [.ref v0] h sz Q := by
  obtain ⟨u, eu, hf⟩ := ob hf
  exact MM_of wok_X8_sumSeen (by decide +kernel) (Nat.le_of_ble_eq_true rfl) ((w_X8_sumSeen_0 hQ hf))

theorem dX8_kinds_0 : decode (mB M_X8_kinds) 0 = .ok (.iconst 0, 1) := by decide +kernel
theorem dX8_kinds_1 : decode (mB M_X8_kinds) 1 = .ok (.istore 4, 2) := by decide +kernel
theorem dX8_kinds_3 : decode (mB M_X8_kinds) 3 = .ok (.iload_n 1, 1) := by decide +kernel
theorem dX8_kinds_4 : decode (mB M_X8_kinds) 4 = .ok (.istore 5, 2) := by decide +kernel
theorem dX8_kinds_6 : decode (mB M_X8_kinds) 6 = .ok (.iload 5, 2) := by decide +kernel
theorem dX8_kinds_8 : decode (mB M_X8_kinds) 8 = .ok (.iload_n 2, 1) := by decide +kernel
theorem dX8_kinds_9 : decode (mB M_X8_kinds) 9 = .ok (.if_icmp .ge 29, 3) := by decide +kernel
theorem dX8_kinds_12 : decode (mB M_X8_kinds) 12 = .ok (.iload 4, 2) := by decide +kernel
theorem dX8_kinds_14 : decode (mB M_X8_kinds) 14 = .ok (.aload_n 0, 1) := by decide +kernel
theorem dX8_kinds_15 : decode (mB M_X8_kinds) 15 = .ok (.iload 5, 2) := by decide +kernel
theorem dX8_kinds_17 : decode (mB M_X8_kinds) 17 = .ok (.invokevirtual 68, 3) := by decide +kernel
theorem dX8_kinds_20 : decode (mB M_X8_kinds) 20 = .ok (.iload_n 3, 1) := by decide +kernel
theorem dX8_kinds_21 : decode (mB M_X8_kinds) 21 = .ok (.if_icmp .ne 7, 3) := by decide +kernel
theorem dX8_kinds_24 : decode (mB M_X8_kinds) 24 = .ok (.iconst 1, 1) := by decide +kernel
theorem dX8_kinds_25 : decode (mB M_X8_kinds) 25 = .ok (.goto 4, 3) := by decide +kernel
theorem dX8_kinds_28 : decode (mB M_X8_kinds) 28 = .ok (.iconst 0, 1) := by decide +kernel
theorem dX8_kinds_29 : decode (mB M_X8_kinds) 29 = .ok (.iadd, 1) := by decide +kernel
theorem dX8_kinds_30 : decode (mB M_X8_kinds) 30 = .ok (.istore 4, 2) := by decide +kernel
theorem dX8_kinds_32 : decode (mB M_X8_kinds) 32 = .ok (.iinc 5 1, 3) := by decide +kernel
theorem dX8_kinds_35 : decode (mB M_X8_kinds) 35 = .ok (.goto (-29), 3) := by decide +kernel
theorem dX8_kinds_38 : decode (mB M_X8_kinds) 38 = .ok (.iload 4, 2) := by decide +kernel
theorem dX8_kinds_40 : decode (mB M_X8_kinds) 40 = .ok (.ireturn, 1) := by decide +kernel
def c_X8_kinds_6 (h : HP) (v0 : Nat) (v2 : Int32) (v3 : Int32) (k6 : Int32 → Int32 → Option (Int32)) (v4 : Int32) (v5 : Int32) : Option (Int32) :=
  if v2 ≤ v5 then some (v4) else (f_X8_isEntry h v0 v5).bind fun y2 => if y2 = v3 then k6 (v4 + 1) (v5 + 1) else k6 (v4 + 0) (v5 + 1)
def b_X8_kinds_6 (h : HP) (v0 : Nat) (v2 : Int32) (v3 : Int32) : Nat → Int32 → Int32 → Option (Int32)
  | 0, _, _ => none
  | n + 1, v4, v5 => c_X8_kinds_6 h v0 v2 v3 (b_X8_kinds_6 h v0 v2 v3 n) v4 v5
def b_X8_kinds_0 (h : HP) (v0 : Nat) (v1 : Int32) (v2 : Int32) (v3 : Int32) : Option (Int32) :=
  b_X8_kinds_6 h v0 v2 v3 FU 0 v1
def f_X8_kinds (h : HP) (v0 : Nat) (v1 : Int32) (v2 : Int32) (v3 : Int32) : Option (Int32) := (kO 8 h v0).bind fun _ => b_X8_kinds_0 h v0 v1 v2 v3
theorem wc_X8_kinds_6 {l : Launch} {X : SCR} {Q : PST} {bc bs : Nat} {res : Int32} {h : HP} (hQ : ∀ sz', Q (.inl (some (.int res))) h sz') {v0 : Nat} {v2 : Int32} {v3 : Int32} {k6 : Int32 → Int32 → Option (Int32)} (hk6 : ∀ (v4 : Int32) (v5 : Int32) (sz : Nat), k6 v4 v5 = some res → SP l X M_X8_kinds 6 [(0, .ref v0), (2, .int v2), (3, .int v3), (4, .int v4), (5, .int v5)] [] h sz bc bs Q) {v4 : Int32} {v5 : Int32} {sz : Nat} (hf : c_X8_kinds_6 h v0 v2 v3 k6 v4 v5 = some res) : SP l X M_X8_kinds 6 [(0, .ref v0), (2, .int v2), (3, .int v3), (4, .int v4), (5, .int v5)] [] h sz bc bs Q := by
  rw [c_X8_kinds_6] at hf
  refine sp_iload (pc := 6) dX8_kinds_6 4 rfl ?_
  refine sp_iload_n (pc := 8) dX8_kinds_8 1 rfl ?_
  refine sp_icmp_ge (pc := 9) (tgt := 38) dX8_kinds_9 (by decide) (fun c1 => ?_) (fun c1 => ?_)
  · rw [if_pos c1] at hf
    refine sp_iload (pc := 38) dX8_kinds_38 3 rfl ?_
    obtain rfl := Option.some.inj hf
    exact sp_ireturn (pc := 40) dX8_kinds_40 rfl rfl (hQ _)
  · rw [if_neg c1] at hf
    refine sp_iload (pc := 12) dX8_kinds_12 3 rfl ?_
    refine sp_aload_n (pc := 14) dX8_kinds_14 0 rfl ?_
    refine sp_iload (pc := 15) dX8_kinds_15 4 rfl ?_
    obtain ⟨y2, ey2, hf⟩ := ob hf
    obtain ⟨fsy2, hoy2⟩ := o_X8_isEntry ey2
    refine sp_callVi (pc := 17) (z := M_X8_isEntry) (As := [.int v5]) (b := v0) (bc2 := bc) (bs2 := bs) (m_X8_isEntry (Q := _) (fun sz => ⟨y2, rfl, ?_⟩) ey2) rfl dX8_kinds_17 hoy2 rfl rfl ck_X8_kinds_68 (Nat.le_of_ble_eq_true rfl) rfl rfl rfl
    refine sp_iload_n (pc := 20) dX8_kinds_20 2 rfl ?_
    refine sp_icmp_ne (pc := 21) (tgt := 28) dX8_kinds_21 (by decide) (fun c3 => ?_) (fun c3 => ?_)
    · rw [if_neg c3] at hf
      refine sp_iconst (pc := 28) (v := 0) dX8_kinds_28 (by decide) ?_
      refine sp_iadd (pc := 29) dX8_kinds_29 ?_
      refine sp_istore (pc := 30) (lv' := [(4, .int (v4 + 0)), (0, .ref v0), (2, .int v2), (3, .int v3), (5, .int v5)]) dX8_kinds_30 (by decide) rfl ?_
      refine sp_iinc (pc := 32) (v := v5 + 1) (lv' := [(5, .int (v5 + 1)), (4, .int (v4 + 0)), (0, .ref v0), (2, .int v2), (3, .int v3)]) dX8_kinds_32 4 rfl rfl (by decide) rfl ?_
      refine sp_goto (pc := 35) (tgt := 6) dX8_kinds_35 (by decide) ?_
      exact sp_sub [2, 3, 4, 1, 0] rfl (hk6 _ _ _ hf)
    · rw [if_pos c3] at hf
      refine sp_iconst (pc := 24) (v := 1) dX8_kinds_24 (by decide) ?_
      refine sp_goto (pc := 25) (tgt := 29) dX8_kinds_25 (by decide) ?_
      refine sp_iadd (pc := 29) dX8_kinds_29 ?_
      refine sp_istore (pc := 30) (lv' := [(4, .int (v4 + 1)), (0, .ref v0), (2, .int v2), (3, .int v3), (5, .int v5)]) dX8_kinds_30 (by decide) rfl ?_
      refine sp_iinc (pc := 32) (v := v5 + 1) (lv' := [(5, .int (v5 + 1)), (4, .int (v4 + 1)), (0, .ref v0), (2, .int v2), (3, .int v3)]) dX8_kinds_32 4 rfl rfl (by decide) rfl ?_
      refine sp_goto (pc := 35) (tgt := 6) dX8_kinds_35 (by decide) ?_
      exact sp_sub [2, 3, 4, 1, 0] rfl (hk6 _ _ _ hf)

theorem w_X8_kinds_6 {l : Launch} {X : SCR} {Q : PST} {bc bs : Nat} {res : Int32} {h : HP} (hQ : ∀ sz', Q (.inl (some (.int res))) h sz') {v0 : Nat} {v2 : Int32} {v3 : Int32} : ∀ (n : Nat) {v4 : Int32} {v5 : Int32} {sz : Nat}, b_X8_kinds_6 h v0 v2 v3 n v4 v5 = some res → SP l X M_X8_kinds 6 [(0, .ref v0), (2, .int v2), (3, .int v3), (4, .int v4), (5, .int v5)] [] h sz bc bs Q := by
  intro n
  induction n with
  | zero =>
    intro v4 v5 sz hf
    rw [b_X8_kinds_6] at hf
    cases hf
  | succ n ih =>
    intro v4 v5 sz hf
    rw [b_X8_kinds_6] at hf
    exact wc_X8_kinds_6 hQ (fun v4 v5 sz hf => ih hf) hf

theorem w_X8_kinds_0 {l : Launch} {X : SCR} {Q : PST} {bc bs : Nat} {res : Int32} {h : HP} (hQ : ∀ sz', Q (.inl (some (.int res))) h sz') {v0 : Nat} {v1 : Int32} {v2 : Int32} {v3 : Int32} {sz : Nat} (hf : b_X8_kinds_0 h v0 v1 v2 v3  = some res) : SP l X M_X8_kinds 0 [(0, .ref v0), (1, .int v1), (2, .int v2), (3, .int v3)] [] h sz bc bs Q := by
  rw [b_X8_kinds_0] at hf
  refine sp_iconst (pc := 0) (v := 0) dX8_kinds_0 (by decide) ?_
  refine sp_istore (pc := 1) (lv' := [(4, .int 0), (0, .ref v0), (1, .int v1), (2, .int v2), (3, .int v3)]) dX8_kinds_1 (by decide) rfl ?_
  refine sp_iload_n (pc := 3) dX8_kinds_3 2 rfl ?_
  refine sp_istore (pc := 4) (lv' := [(5, .int v1), (4, .int 0), (0, .ref v0), (1, .int v1), (2, .int v2), (3, .int v3)]) dX8_kinds_4 (by decide) rfl ?_
  exact sp_sub [2, 4, 5, 1, 0] rfl (w_X8_kinds_6 hQ FU hf)

theorem o_X8_kinds {h : HP} {v0 : Nat} {v1 : Int32} {v2 : Int32} {v3 : Int32} {res : Int32} (hf : f_X8_kinds h v0 v1 v2 v3 = some res) : ∃ fs, h v0 = some (.inr (8, fs)) := by
  obtain ⟨u, eu, -⟩ := ob hf
  exact kO_spec eu

theorem m_X8_kinds {l : Launch} {Q : PST} {h : HP} {v0 : Nat} {v1 : Int32} {v2 : Int32} {v3 : Int32} {sz : Nat} {res : Int32} (hQ : ∀ sz', Q (.inl (some (.int res))) h sz') (hf : f_X8_kinds h v0 v1 v2 v3 = some res) : MM l M_X8_kinds [.ref v0, .int v1, .int v2, .int v3] h sz Q := by
  obtain ⟨u, eu, hf⟩ := ob hf
  exact MM_of wok_X8_kinds (by decide +kernel) (Nat.le_of_ble_eq_true rfl) ((w_X8_kinds_0 hQ hf))

theorem dX8_told_0 : decode (mB M_X8_told) 0 = .ok (.iload_n 1, 1) := by decide +kernel
theorem dX8_told_1 : decode (mB M_X8_told) 1 = .ok (.tableswitch 108 0 7 #[47, 55, 63, 70, 78, 83, 94, 103], 47) := by decide +kernel
theorem dX8_told_48 : decode (mB M_X8_told) 48 = .ok (.aload_n 0, 1) := by decide +kernel
theorem dX8_told_49 : decode (mB M_X8_told) 49 = .ok (.getfield 7, 3) := by decide +kernel
theorem dX8_told_52 : decode (mB M_X8_told) 52 = .ok (.bipush 10, 2) := by decide +kernel
theorem dX8_told_54 : decode (mB M_X8_told) 54 = .ok (.iaload, 1) := by decide +kernel
theorem dX8_told_55 : decode (mB M_X8_told) 55 = .ok (.ireturn, 1) := by decide +kernel
theorem dX8_told_56 : decode (mB M_X8_told) 56 = .ok (.aload_n 0, 1) := by decide +kernel
theorem dX8_told_57 : decode (mB M_X8_told) 57 = .ok (.getfield 7, 3) := by decide +kernel
theorem dX8_told_60 : decode (mB M_X8_told) 60 = .ok (.bipush 6, 2) := by decide +kernel
theorem dX8_told_62 : decode (mB M_X8_told) 62 = .ok (.iaload, 1) := by decide +kernel
theorem dX8_told_63 : decode (mB M_X8_told) 63 = .ok (.ireturn, 1) := by decide +kernel
theorem dX8_told_64 : decode (mB M_X8_told) 64 = .ok (.aload_n 0, 1) := by decide +kernel
theorem dX8_told_65 : decode (mB M_X8_told) 65 = .ok (.getfield 7, 3) := by decide +kernel
theorem dX8_told_68 : decode (mB M_X8_told) 68 = .ok (.iconst 0, 1) := by decide +kernel
theorem dX8_told_69 : decode (mB M_X8_told) 69 = .ok (.iaload, 1) := by decide +kernel
theorem dX8_told_70 : decode (mB M_X8_told) 70 = .ok (.ireturn, 1) := by decide +kernel
theorem dX8_told_71 : decode (mB M_X8_told) 71 = .ok (.aload_n 0, 1) := by decide +kernel
theorem dX8_told_72 : decode (mB M_X8_told) 72 = .ok (.getfield 7, 3) := by decide +kernel
theorem dX8_told_75 : decode (mB M_X8_told) 75 = .ok (.bipush 7, 2) := by decide +kernel
theorem dX8_told_77 : decode (mB M_X8_told) 77 = .ok (.iaload, 1) := by decide +kernel
theorem dX8_told_78 : decode (mB M_X8_told) 78 = .ok (.ireturn, 1) := by decide +kernel
theorem dX8_told_79 : decode (mB M_X8_told) 79 = .ok (.aload_n 0, 1) := by decide +kernel
theorem dX8_told_80 : decode (mB M_X8_told) 80 = .ok (.invokevirtual 54, 3) := by decide +kernel
theorem dX8_told_83 : decode (mB M_X8_told) 83 = .ok (.ireturn, 1) := by decide +kernel
theorem dX8_told_84 : decode (mB M_X8_told) 84 = .ok (.aload_n 0, 1) := by decide +kernel
theorem dX8_told_85 : decode (mB M_X8_told) 85 = .ok (.iconst 0, 1) := by decide +kernel
theorem dX8_told_86 : decode (mB M_X8_told) 86 = .ok (.aload_n 0, 1) := by decide +kernel
theorem dX8_told_87 : decode (mB M_X8_told) 87 = .ok (.invokevirtual 54, 3) := by decide +kernel
theorem dX8_told_90 : decode (mB M_X8_told) 90 = .ok (.iconst 1, 1) := by decide +kernel
theorem dX8_told_91 : decode (mB M_X8_told) 91 = .ok (.invokevirtual 190, 3) := by decide +kernel
theorem dX8_told_94 : decode (mB M_X8_told) 94 = .ok (.ireturn, 1) := by decide +kernel
theorem dX8_told_95 : decode (mB M_X8_told) 95 = .ok (.aload_n 0, 1) := by decide +kernel
theorem dX8_told_96 : decode (mB M_X8_told) 96 = .ok (.iconst 0, 1) := by decide +kernel
theorem dX8_told_97 : decode (mB M_X8_told) 97 = .ok (.bipush 99, 2) := by decide +kernel
theorem dX8_told_99 : decode (mB M_X8_told) 99 = .ok (.iconst (-1), 1) := by decide +kernel
theorem dX8_told_100 : decode (mB M_X8_told) 100 = .ok (.invokevirtual 100, 3) := by decide +kernel
theorem dX8_told_103 : decode (mB M_X8_told) 103 = .ok (.ireturn, 1) := by decide +kernel
theorem dX8_told_104 : decode (mB M_X8_told) 104 = .ok (.aload_n 0, 1) := by decide +kernel
theorem dX8_told_105 : decode (mB M_X8_told) 105 = .ok (.invokevirtual 194, 3) := by decide +kernel
theorem dX8_told_108 : decode (mB M_X8_told) 108 = .ok (.ireturn, 1) := by decide +kernel
theorem dX8_told_109 : decode (mB M_X8_told) 109 = .ok (.aload_n 0, 1) := by decide +kernel
theorem dX8_told_110 : decode (mB M_X8_told) 110 = .ok (.getfield 7, 3) := by decide +kernel
theorem dX8_told_113 : decode (mB M_X8_told) 113 = .ok (.bipush 11, 2) := by decide +kernel
theorem dX8_told_115 : decode (mB M_X8_told) 115 = .ok (.iaload, 1) := by decide +kernel
theorem dX8_told_116 : decode (mB M_X8_told) 116 = .ok (.ireturn, 1) := by decide +kernel
def b_X8_told_0 (h : HP) (v0 : Nat) (v1 : Int32) : Option (Int32) :=
  if v1 = 0 then (gR 8 1 h v0).bind fun x2 => (aI h x2 10).bind fun x3 => some (x3) else if v1 = 1 then (gR 8 1 h v0).bind fun x5 => (aI h x5 6).bind fun x6 => some (x6) else if v1 = 2 then (gR 8 1 h v0).bind fun x8 => (aI h x8 0).bind fun x9 => some (x9) else if v1 = 3 then (gR 8 1 h v0).bind fun x11 => (aI h x11 7).bind fun x12 => some (x12) else if v1 = 4 then (f_X8_all h v0).bind fun y14 => some (y14) else if v1 = 5 then (f_X8_all h v0).bind fun y16 => (f_X8_kinds h v0 0 y16 1).bind fun y17 => some (y17) else if v1 = 6 then (f_X8_countSeen h v0 0 99 (-1)).bind fun y19 => some (y19) else if v1 = 7 then (f_X8_sumSeen h v0).bind fun y21 => some (y21) else (gR 8 1 h v0).bind fun x22 => (aI h x22 11).bind fun x23 => some (x23)
def f_X8_told (h : HP) (v0 : Nat) (v1 : Int32) : Option (Int32) := (kO 8 h v0).bind fun _ => b_X8_told_0 h v0 v1
theorem w_X8_told_0 {l : Launch} {X : SCR} {Q : PST} {bc bs : Nat} {res : Int32} {h : HP} (hQ : ∀ sz', Q (.inl (some (.int res))) h sz') {v0 : Nat} {v1 : Int32} {sz : Nat} (hf : b_X8_told_0 h v0 v1  = some res) : SP l X M_X8_told 0 [(0, .ref v0), (1, .int v1)] [] h sz bc bs Q := by
  rw [b_X8_told_0] at hf
  refine sp_iload_n (pc := 0) dX8_told_0 1 rfl ?_
  by_cases c1 : v1 = 0
  · rw [if_pos c1] at hf
    refine sp_tableIn (pc := 1) (off := 47) (tgt := 48) dX8_told_1 (by rw [c1]; decide) (by rw [c1]; decide) (by rw [c1]; rfl) (by decide) ?_
    refine sp_aload_n (pc := 48) dX8_told_48 0 rfl ?_
    obtain ⟨x2, ex2, hf⟩ := ob hf
    refine sp_gR (pc := 49) fl_RX8_7 dX8_told_49 ex2 ?_
    refine sp_bipush (pc := 52) (v := 10) dX8_told_52 (by decide) ?_
    obtain ⟨x3, ex3, hf⟩ := ob hf
    refine sp_aI (pc := 54) dX8_told_54 ex3 ?_
    obtain rfl := Option.some.inj hf
    exact sp_ireturn (pc := 55) dX8_told_55 rfl rfl (hQ _)
  rw [if_neg c1] at hf
  by_cases c4 : v1 = 1
  · rw [if_pos c4] at hf
    refine sp_tableIn (pc := 1) (off := 55) (tgt := 56) dX8_told_1 (by rw [c4]; decide) (by rw [c4]; decide) (by rw [c4]; rfl) (by decide) ?_
    refine sp_aload_n (pc := 56) dX8_told_56 0 rfl ?_
    obtain ⟨x5, ex5, hf⟩ := ob hf
    refine sp_gR (pc := 57) fl_RX8_7 dX8_told_57 ex5 ?_
    refine sp_bipush (pc := 60) (v := 6) dX8_told_60 (by decide) ?_
    obtain ⟨x6, ex6, hf⟩ := ob hf
    refine sp_aI (pc := 62) dX8_told_62 ex6 ?_
    obtain rfl := Option.some.inj hf
    exact sp_ireturn (pc := 63) dX8_told_63 rfl rfl (hQ _)
  rw [if_neg c4] at hf
  by_cases c7 : v1 = 2
  · rw [if_pos c7] at hf
    refine sp_tableIn (pc := 1) (off := 63) (tgt := 64) dX8_told_1 (by rw [c7]; decide) (by rw [c7]; decide) (by rw [c7]; rfl) (by decide) ?_
    refine sp_aload_n (pc := 64) dX8_told_64 0 rfl ?_
    obtain ⟨x8, ex8, hf⟩ := ob hf
    refine sp_gR (pc := 65) fl_RX8_7 dX8_told_65 ex8 ?_
    refine sp_iconst (pc := 68) (v := 0) dX8_told_68 (by decide) ?_
    obtain ⟨x9, ex9, hf⟩ := ob hf
    refine sp_aI (pc := 69) dX8_told_69 ex9 ?_
    obtain rfl := Option.some.inj hf
    exact sp_ireturn (pc := 70) dX8_told_70 rfl rfl (hQ _)
  rw [if_neg c7] at hf
  by_cases c10 : v1 = 3
  · rw [if_pos c10] at hf
    refine sp_tableIn (pc := 1) (off := 70) (tgt := 71) dX8_told_1 (by rw [c10]; decide) (by rw [c10]; decide) (by rw [c10]; rfl) (by decide) ?_
    refine sp_aload_n (pc := 71) dX8_told_71 0 rfl ?_
    obtain ⟨x11, ex11, hf⟩ := ob hf
    refine sp_gR (pc := 72) fl_RX8_7 dX8_told_72 ex11 ?_
    refine sp_bipush (pc := 75) (v := 7) dX8_told_75 (by decide) ?_
    obtain ⟨x12, ex12, hf⟩ := ob hf
    refine sp_aI (pc := 77) dX8_told_77 ex12 ?_
    obtain rfl := Option.some.inj hf
    exact sp_ireturn (pc := 78) dX8_told_78 rfl rfl (hQ _)
  rw [if_neg c10] at hf
  by_cases c13 : v1 = 4
  · rw [if_pos c13] at hf
    refine sp_tableIn (pc := 1) (off := 78) (tgt := 79) dX8_told_1 (by rw [c13]; decide) (by rw [c13]; decide) (by rw [c13]; rfl) (by decide) ?_
    refine sp_aload_n (pc := 79) dX8_told_79 0 rfl ?_
    obtain ⟨y14, ey14, hf⟩ := ob hf
    obtain ⟨fsy14, hoy14⟩ := o_X8_all ey14
    refine sp_callVi (pc := 80) (z := M_X8_all) (As := []) (b := v0) (bc2 := bc) (bs2 := bs) (m_X8_all (Q := _) (fun sz => ⟨y14, rfl, ?_⟩) ey14) rfl dX8_told_80 hoy14 rfl rfl ck_X8_told_54 (Nat.le_of_ble_eq_true rfl) rfl rfl rfl
    obtain rfl := Option.some.inj hf
    exact sp_ireturn (pc := 83) dX8_told_83 rfl rfl (hQ _)
  rw [if_neg c13] at hf
  by_cases c15 : v1 = 5
  · rw [if_pos c15] at hf
    refine sp_tableIn (pc := 1) (off := 83) (tgt := 84) dX8_told_1 (by rw [c15]; decide) (by rw [c15]; decide) (by rw [c15]; rfl) (by decide) ?_
    refine sp_aload_n (pc := 84) dX8_told_84 0 rfl ?_
    refine sp_iconst (pc := 85) (v := 0) dX8_told_85 (by decide) ?_
    refine sp_aload_n (pc := 86) dX8_told_86 0 rfl ?_
    obtain ⟨y16, ey16, hf⟩ := ob hf
    obtain ⟨fsy16, hoy16⟩ := o_X8_all ey16
    refine sp_callVi (pc := 87) (z := M_X8_all) (As := []) (b := v0) (bc2 := bc) (bs2 := bs) (m_X8_all (Q := _) (fun sz => ⟨y16, rfl, ?_⟩) ey16) rfl dX8_told_87 hoy16 rfl rfl ck_X8_told_54 (Nat.le_of_ble_eq_true rfl) rfl rfl rfl
    refine sp_iconst (pc := 90) (v := 1) dX8_told_90 (by decide) ?_
    obtain ⟨y17, ey17, hf⟩ := ob hf
    obtain ⟨fsy17, hoy17⟩ := o_X8_kinds ey17
    refine sp_callVi (pc := 91) (z := M_X8_kinds) (As := [.int 0, .int y16, .int 1]) (b := v0) (bc2 := bc) (bs2 := bs) (m_X8_kinds (Q := _) (fun sz => ⟨y17, rfl, ?_⟩) ey17) rfl dX8_told_91 hoy17 rfl rfl ck_X8_told_190 (Nat.le_of_ble_eq_true rfl) rfl rfl rfl
    obtain rfl := Option.some.inj hf
    exact sp_ireturn (pc := 94) dX8_told_94 rfl rfl (hQ _)
  rw [if_neg c15] at hf
  by_cases c18 : v1 = 6
  · rw [if_pos c18] at hf
    refine sp_tableIn (pc := 1) (off := 94) (tgt := 95) dX8_told_1 (by rw [c18]; decide) (by rw [c18]; decide) (by rw [c18]; rfl) (by decide) ?_
    refine sp_aload_n (pc := 95) dX8_told_95 0 rfl ?_
    refine sp_iconst (pc := 96) (v := 0) dX8_told_96 (by decide) ?_
    refine sp_bipush (pc := 97) (v := 99) dX8_told_97 (by decide) ?_
    refine sp_iconst (pc := 99) (v := (-1)) dX8_told_99 (by decide) ?_
    obtain ⟨y19, ey19, hf⟩ := ob hf
    obtain ⟨fsy19, hoy19⟩ := o_X8_countSeen ey19
    refine sp_callVi (pc := 100) (z := M_X8_countSeen) (As := [.int 0, .int 99, .int (-1)]) (b := v0) (bc2 := bc) (bs2 := bs) (m_X8_countSeen (Q := _) (fun sz => ⟨y19, rfl, ?_⟩) ey19) rfl dX8_told_100 hoy19 rfl rfl ck_X8_told_100 (Nat.le_of_ble_eq_true rfl) rfl rfl rfl
    obtain rfl := Option.some.inj hf
    exact sp_ireturn (pc := 103) dX8_told_103 rfl rfl (hQ _)
  rw [if_neg c18] at hf
  by_cases c20 : v1 = 7
  · rw [if_pos c20] at hf
    refine sp_tableIn (pc := 1) (off := 103) (tgt := 104) dX8_told_1 (by rw [c20]; decide) (by rw [c20]; decide) (by rw [c20]; rfl) (by decide) ?_
    refine sp_aload_n (pc := 104) dX8_told_104 0 rfl ?_
    obtain ⟨y21, ey21, hf⟩ := ob hf
    obtain ⟨fsy21, hoy21⟩ := o_X8_sumSeen ey21
    refine sp_callVi (pc := 105) (z := M_X8_sumSeen) (As := []) (b := v0) (bc2 := bc) (bs2 := bs) (m_X8_sumSeen (Q := _) (fun sz => ⟨y21, rfl, ?_⟩) ey21) rfl dX8_told_105 hoy21 rfl rfl ck_X8_told_194 (Nat.le_of_ble_eq_true rfl) rfl rfl rfl
    obtain rfl := Option.some.inj hf
    exact sp_ireturn (pc := 108) dX8_told_108 rfl rfl (hQ _)
  rw [if_neg c20] at hf
  refine sp_tableOut (pc := 1) (tgt := 109) dX8_told_1 (tbl_out (fun i h1 h2 he => ?_)) (by decide) ?_
  · rcases (show i = 0 ∨ i = 1 ∨ i = 2 ∨ i = 3 ∨ i = 4 ∨ i = 5 ∨ i = 6 ∨ i = 7 by omega) with rfl | rfl | rfl | rfl | rfl | rfl | rfl | rfl
    · exact c1 (Int32.toInt_inj.mp (he.trans (by decide)))
    · exact c4 (Int32.toInt_inj.mp (he.trans (by decide)))
    · exact c7 (Int32.toInt_inj.mp (he.trans (by decide)))
    · exact c10 (Int32.toInt_inj.mp (he.trans (by decide)))
    · exact c13 (Int32.toInt_inj.mp (he.trans (by decide)))
    · exact c15 (Int32.toInt_inj.mp (he.trans (by decide)))
    · exact c18 (Int32.toInt_inj.mp (he.trans (by decide)))
    · exact c20 (Int32.toInt_inj.mp (he.trans (by decide)))
  refine sp_aload_n (pc := 109) dX8_told_109 0 rfl ?_
  obtain ⟨x22, ex22, hf⟩ := ob hf
  refine sp_gR (pc := 110) fl_RX8_7 dX8_told_110 ex22 ?_
  refine sp_bipush (pc := 113) (v := 11) dX8_told_113 (by decide) ?_
  obtain ⟨x23, ex23, hf⟩ := ob hf
  refine sp_aI (pc := 115) dX8_told_115 ex23 ?_
  obtain rfl := Option.some.inj hf
  exact sp_ireturn (pc := 116) dX8_told_116 rfl rfl (hQ _)

theorem o_X8_told {h : HP} {v0 : Nat} {v1 : Int32} {res : Int32} (hf : f_X8_told h v0 v1 = some res) : ∃ fs, h v0 = some (.inr (8, fs)) := by
  obtain ⟨u, eu, -⟩ := ob hf
  exact kO_spec eu

theorem m_X8_told {l : Launch} {Q : PST} {h : HP} {v0 : Nat} {v1 : Int32} {sz : Nat} {res : Int32} (hQ : ∀ sz', Q (.inl (some (.int res))) h sz') (hf : f_X8_told h v0 v1 = some res) : MM l M_X8_told [.ref v0, .int v1] h sz Q := by
  obtain ⟨u, eu, hf⟩ := ob hf
  exact MM_of wok_X8_told (by decide +kernel) (Nat.le_of_ble_eq_true rfl) ((w_X8_told_0 hQ hf))

theorem dX8_about_0 : decode (mB M_X8_about) 0 = .ok (.aload_n 0, 1) := by decide +kernel
theorem dX8_about_1 : decode (mB M_X8_about) 1 = .ok (.iload_n 1, 1) := by decide +kernel
theorem dX8_about_2 : decode (mB M_X8_about) 2 = .ok (.iconst 0, 1) := by decide +kernel
theorem dX8_about_3 : decode (mB M_X8_about) 3 = .ok (.bipush 8, 2) := by decide +kernel
theorem dX8_about_5 : decode (mB M_X8_about) 5 = .ok (.invokestatic 39, 3) := by decide +kernel
theorem dX8_about_8 : decode (mB M_X8_about) 8 = .ok (.ifCond .eq 7, 3) := by decide +kernel
theorem dX8_about_11 : decode (mB M_X8_about) 11 = .ok (.iconst 0, 1) := by decide +kernel
theorem dX8_about_12 : decode (mB M_X8_about) 12 = .ok (.goto 4, 3) := by decide +kernel
theorem dX8_about_15 : decode (mB M_X8_about) 15 = .ok (.iconst 1, 1) := by decide +kernel
theorem dX8_about_16 : decode (mB M_X8_about) 16 = .ok (.invokevirtual 124, 3) := by decide +kernel
theorem dX8_about_19 : decode (mB M_X8_about) 19 = .ok (.ifCond .eq 11, 3) := by decide +kernel
theorem dX8_about_22 : decode (mB M_X8_about) 22 = .ok (.aload_n 0, 1) := by decide +kernel
theorem dX8_about_23 : decode (mB M_X8_about) 23 = .ok (.iload_n 1, 1) := by decide +kernel
theorem dX8_about_24 : decode (mB M_X8_about) 24 = .ok (.invokevirtual 197, 3) := by decide +kernel
theorem dX8_about_27 : decode (mB M_X8_about) 27 = .ok (.goto 4, 3) := by decide +kernel
theorem dX8_about_30 : decode (mB M_X8_about) 30 = .ok (.iconst 0, 1) := by decide +kernel
theorem dX8_about_31 : decode (mB M_X8_about) 31 = .ok (.ireturn, 1) := by decide +kernel
def b_X8_about_16 (v0 : Nat) (v1 : Int32) (h : HP) (s0 : Nat) (s1 : Int32) : Option (Int32 × HP) :=
  (f_X8_holds h s0 s1).bind fun y1 => if y1.1 = 0 then some (0, y1.2) else (f_X8_told y1.2 v0 v1).bind fun y3 => some (y3, y1.2)
def b_X8_about_0 (v0 : Nat) (v1 : Int32) (h : HP) : Option (Int32 × HP) :=
  (f_X8_in h v1 0 8).bind fun y1 => if y1 = 0 then b_X8_about_16 v0 v1 h v0 1 else b_X8_about_16 v0 v1 h v0 0
def f_X8_about (h : HP) (v0 : Nat) (v1 : Int32) : Option (Int32 × HP) := (kO 8 h v0).bind fun _ => b_X8_about_0 v0 v1 h
theorem w_X8_about_16 {l : Launch} {X : SCR} {Q : PST} {bc bs : Nat} {res : Int32 × HP} {h : HP} (hQ : ∀ sz', Q (.inl (some (.int res.1))) res.2 sz') {v0 : Nat} {v1 : Int32} {s0 : Nat} {s1 : Int32} {sz : Nat} (hf : b_X8_about_16 v0 v1 h s0 s1 = some res) : SP l X M_X8_about 16 [(0, .ref v0), (1, .int v1)] [.int s1, .ref s0] h sz bc bs Q := by
  rw [b_X8_about_16] at hf
  obtain ⟨y1, ey1, hf⟩ := ob hf
  obtain ⟨fsy1, hoy1⟩ := o_X8_holds ey1
  refine sp_callVi (pc := 16) (z := M_X8_holds) (As := [.int s1]) (b := s0) (bc2 := bc) (bs2 := bs) (m_X8_holds (Q := _) (fun sz => ⟨y1.1, rfl, ?_⟩) ey1) rfl dX8_about_16 hoy1 rfl rfl ck_X8_about_124 (Nat.le_of_ble_eq_true rfl) rfl rfl rfl
  refine sp_if_eq (pc := 19) (tgt := 30) dX8_about_19 (by decide) (fun c2 => ?_) (fun c2 => ?_)
  · rw [if_pos c2] at hf
    refine sp_iconst (pc := 30) (v := 0) dX8_about_30 (by decide) ?_
    obtain rfl := Option.some.inj hf
    exact sp_ireturn (pc := 31) dX8_about_31 rfl rfl (hQ _)
  · rw [if_neg c2] at hf
    refine sp_aload_n (pc := 22) dX8_about_22 0 rfl ?_
    refine sp_iload_n (pc := 23) dX8_about_23 1 rfl ?_
    obtain ⟨y3, ey3, hf⟩ := ob hf
    obtain ⟨fsy3, hoy3⟩ := o_X8_told ey3
    refine sp_callVi (pc := 24) (z := M_X8_told) (As := [.int v1]) (b := v0) (bc2 := bc) (bs2 := bs) (m_X8_told (Q := _) (fun sz => ⟨y3, rfl, ?_⟩) ey3) rfl dX8_about_24 hoy3 rfl rfl ck_X8_about_197 (Nat.le_of_ble_eq_true rfl) rfl rfl rfl
    refine sp_goto (pc := 27) (tgt := 31) dX8_about_27 (by decide) ?_
    obtain rfl := Option.some.inj hf
    exact sp_ireturn (pc := 31) dX8_about_31 rfl rfl (hQ _)

theorem w_X8_about_0 {l : Launch} {X : SCR} {Q : PST} {bc bs : Nat} {res : Int32 × HP} {h : HP} (hQ : ∀ sz', Q (.inl (some (.int res.1))) res.2 sz') {v0 : Nat} {v1 : Int32} {sz : Nat} (hf : b_X8_about_0 v0 v1 h  = some res) : SP l X M_X8_about 0 [(0, .ref v0), (1, .int v1)] [] h sz bc bs Q := by
  rw [b_X8_about_0] at hf
  refine sp_aload_n (pc := 0) dX8_about_0 0 rfl ?_
  refine sp_iload_n (pc := 1) dX8_about_1 1 rfl ?_
  refine sp_iconst (pc := 2) (v := 0) dX8_about_2 (by decide) ?_
  refine sp_bipush (pc := 3) (v := 8) dX8_about_3 (by decide) ?_
  obtain ⟨y1, ey1, hf⟩ := ob hf
  refine sp_callSi (pc := 5) (z := M_X8_in) (As := [.int v1, .int 0, .int 8]) (bc2 := bc) (bs2 := bs) (m_X8_in (Q := _) (fun sz => ⟨y1, rfl, ?_⟩) ey1) rfl dX8_about_5 rfl ck_X8_about_39 (Nat.le_of_ble_eq_true rfl) rfl rfl rfl
  refine sp_if_eq (pc := 8) (tgt := 15) dX8_about_8 (by decide) (fun c2 => ?_) (fun c2 => ?_)
  · rw [if_pos c2] at hf
    refine sp_iconst (pc := 15) (v := 1) dX8_about_15 (by decide) ?_
    exact (w_X8_about_16 hQ hf)
  · rw [if_neg c2] at hf
    refine sp_iconst (pc := 11) (v := 0) dX8_about_11 (by decide) ?_
    refine sp_goto (pc := 12) (tgt := 16) dX8_about_12 (by decide) ?_
    exact (w_X8_about_16 hQ hf)

theorem o_X8_about {h : HP} {v0 : Nat} {v1 : Int32} {res : Int32 × HP} (hf : f_X8_about h v0 v1 = some res) : ∃ fs, h v0 = some (.inr (8, fs)) := by
  obtain ⟨u, eu, -⟩ := ob hf
  exact kO_spec eu

theorem m_X8_about {l : Launch} {Q : PST} {h : HP} {v0 : Nat} {v1 : Int32} {sz : Nat} {res : Int32 × HP} (hQ : ∀ sz', Q (.inl (some (.int res.1))) res.2 sz') (hf : f_X8_about h v0 v1 = some res) : MM l M_X8_about [.ref v0, .int v1] h sz Q := by
  obtain ⟨u, eu, hf⟩ := ob hf
  exact MM_of wok_X8_about (by decide +kernel) (Nat.le_of_ble_eq_true rfl) ((w_X8_about_0 hQ hf))

theorem dX8_isView_0 : decode (mB M_X8_isView) 0 = .ok (.iload_n 1, 1) := by decide +kernel
theorem dX8_isView_1 : decode (mB M_X8_isView) 1 = .ok (.iconst (-1), 1) := by decide +kernel
theorem dX8_isView_2 : decode (mB M_X8_isView) 2 = .ok (.if_icmp .eq 11, 3) := by decide +kernel
theorem dX8_isView_5 : decode (mB M_X8_isView) 5 = .ok (.aload_n 0, 1) := by decide +kernel
theorem dX8_isView_6 : decode (mB M_X8_isView) 6 = .ok (.iload_n 1, 1) := by decide +kernel
theorem dX8_isView_7 : decode (mB M_X8_isView) 7 = .ok (.invokevirtual 161, 3) := by decide +kernel
theorem dX8_isView_10 : decode (mB M_X8_isView) 10 = .ok (.ifCond .eq 7, 3) := by decide +kernel
theorem dX8_isView_13 : decode (mB M_X8_isView) 13 = .ok (.iconst 1, 1) := by decide +kernel
theorem dX8_isView_14 : decode (mB M_X8_isView) 14 = .ok (.goto 4, 3) := by decide +kernel
theorem dX8_isView_17 : decode (mB M_X8_isView) 17 = .ok (.iconst 0, 1) := by decide +kernel
theorem dX8_isView_18 : decode (mB M_X8_isView) 18 = .ok (.ireturn, 1) := by decide +kernel
def b_X8_isView_0 (h : HP) (v0 : Nat) (v1 : Int32) : Option (Int32) :=
  if v1 = (-1) then some (1) else (f_X8_isEye h v0 v1).bind fun y2 => if y2 = 0 then some (0) else some (1)
def f_X8_isView (h : HP) (v0 : Nat) (v1 : Int32) : Option (Int32) := (kO 8 h v0).bind fun _ => b_X8_isView_0 h v0 v1
theorem w_X8_isView_0 {l : Launch} {X : SCR} {Q : PST} {bc bs : Nat} {res : Int32} {h : HP} (hQ : ∀ sz', Q (.inl (some (.int res))) h sz') {v0 : Nat} {v1 : Int32} {sz : Nat} (hf : b_X8_isView_0 h v0 v1  = some res) : SP l X M_X8_isView 0 [(0, .ref v0), (1, .int v1)] [] h sz bc bs Q := by
  rw [b_X8_isView_0] at hf
  refine sp_iload_n (pc := 0) dX8_isView_0 1 rfl ?_
  refine sp_iconst (pc := 1) (v := (-1)) dX8_isView_1 (by decide) ?_
  refine sp_icmp_eq (pc := 2) (tgt := 13) dX8_isView_2 (by decide) (fun c1 => ?_) (fun c1 => ?_)
  · rw [if_pos c1] at hf
    refine sp_iconst (pc := 13) (v := 1) dX8_isView_13 (by decide) ?_
    refine sp_goto (pc := 14) (tgt := 18) dX8_isView_14 (by decide) ?_
    obtain rfl := Option.some.inj hf
    exact sp_ireturn (pc := 18) dX8_isView_18 rfl rfl (hQ _)
  · rw [if_neg c1] at hf
    refine sp_aload_n (pc := 5) dX8_isView_5 0 rfl ?_
    refine sp_iload_n (pc := 6) dX8_isView_6 1 rfl ?_
    obtain ⟨y2, ey2, hf⟩ := ob hf
    obtain ⟨fsy2, hoy2⟩ := o_X8_isEye ey2
    refine sp_callVi (pc := 7) (z := M_X8_isEye) (As := [.int v1]) (b := v0) (bc2 := bc) (bs2 := bs) (m_X8_isEye (Q := _) (fun sz => ⟨y2, rfl, ?_⟩) ey2) rfl dX8_isView_7 hoy2 rfl rfl ck_X8_isView_161 (Nat.le_of_ble_eq_true rfl) rfl rfl rfl
    refine sp_if_eq (pc := 10) (tgt := 17) dX8_isView_10 (by decide) (fun c3 => ?_) (fun c3 => ?_)
    · rw [if_pos c3] at hf
      refine sp_iconst (pc := 17) (v := 0) dX8_isView_17 (by decide) ?_
      obtain rfl := Option.some.inj hf
      exact sp_ireturn (pc := 18) dX8_isView_18 rfl rfl (hQ _)
    · rw [if_neg c3] at hf
      refine sp_iconst (pc := 13) (v := 1) dX8_isView_13 (by decide) ?_
      refine sp_goto (pc := 14) (tgt := 18) dX8_isView_14 (by decide) ?_
      obtain rfl := Option.some.inj hf
      exact sp_ireturn (pc := 18) dX8_isView_18 rfl rfl (hQ _)

theorem o_X8_isView {h : HP} {v0 : Nat} {v1 : Int32} {res : Int32} (hf : f_X8_isView h v0 v1 = some res) : ∃ fs, h v0 = some (.inr (8, fs)) := by
  obtain ⟨u, eu, -⟩ := ob hf
  exact kO_spec eu

theorem m_X8_isView {l : Launch} {Q : PST} {h : HP} {v0 : Nat} {v1 : Int32} {sz : Nat} {res : Int32} (hQ : ∀ sz', Q (.inl (some (.int res))) h sz') (hf : f_X8_isView h v0 v1 = some res) : MM l M_X8_isView [.ref v0, .int v1] h sz Q := by
  obtain ⟨u, eu, hf⟩ := ob hf
  exact MM_of wok_X8_isView (by decide +kernel) (Nat.le_of_ble_eq_true rfl) ((w_X8_isView_0 hQ hf))

theorem dX8_get_0 : decode (mB M_X8_get) 0 = .ok (.aload_n 0, 1) := by decide +kernel
theorem dX8_get_1 : decode (mB M_X8_get) 1 = .ok (.iload_n 1, 1) := by decide +kernel
theorem dX8_get_2 : decode (mB M_X8_get) 2 = .ok (.invokestatic 97, 3) := by decide +kernel
theorem dX8_get_5 : decode (mB M_X8_get) 5 = .ok (.ifCond .eq 15, 3) := by decide +kernel
theorem dX8_get_8 : decode (mB M_X8_get) 8 = .ok (.aload_n 0, 1) := by decide +kernel
theorem dX8_get_9 : decode (mB M_X8_get) 9 = .ok (.iload_n 2, 1) := by decide +kernel
theorem dX8_get_10 : decode (mB M_X8_get) 10 = .ok (.invokevirtual 200, 3) := by decide +kernel
theorem dX8_get_13 : decode (mB M_X8_get) 13 = .ok (.ifCond .eq 7, 3) := by decide +kernel
theorem dX8_get_16 : decode (mB M_X8_get) 16 = .ok (.iconst 0, 1) := by decide +kernel
theorem dX8_get_17 : decode (mB M_X8_get) 17 = .ok (.goto 4, 3) := by decide +kernel
theorem dX8_get_20 : decode (mB M_X8_get) 20 = .ok (.iconst 1, 1) := by decide +kernel
theorem dX8_get_21 : decode (mB M_X8_get) 21 = .ok (.invokevirtual 124, 3) := by decide +kernel
theorem dX8_get_24 : decode (mB M_X8_get) 24 = .ok (.ifCond .eq 12, 3) := by decide +kernel
theorem dX8_get_27 : decode (mB M_X8_get) 27 = .ok (.aload_n 0, 1) := by decide +kernel
theorem dX8_get_28 : decode (mB M_X8_get) 28 = .ok (.iload_n 1, 1) := by decide +kernel
theorem dX8_get_29 : decode (mB M_X8_get) 29 = .ok (.iload_n 2, 1) := by decide +kernel
theorem dX8_get_30 : decode (mB M_X8_get) 30 = .ok (.invokevirtual 72, 3) := by decide +kernel
theorem dX8_get_33 : decode (mB M_X8_get) 33 = .ok (.goto 4, 3) := by decide +kernel
theorem dX8_get_36 : decode (mB M_X8_get) 36 = .ok (.iconst 0, 1) := by decide +kernel
theorem dX8_get_37 : decode (mB M_X8_get) 37 = .ok (.ireturn, 1) := by decide +kernel
def b_X8_get_21 (v0 : Nat) (v1 : Int32) (v2 : Int32) (h : HP) (s0 : Nat) (s1 : Int32) : Option (Int32 × HP) :=
  (f_X8_holds h s0 s1).bind fun y1 => if y1.1 = 0 then some (0, y1.2) else (f_X8_seen y1.2 v0 v1 v2).bind fun y3 => some (y3, y1.2)
def b_X8_get_0 (v0 : Nat) (v1 : Int32) (v2 : Int32) (h : HP) : Option (Int32 × HP) :=
  (f_X8_isKey h v1).bind fun y1 => if y1 = 0 then b_X8_get_21 v0 v1 v2 h v0 1 else (f_X8_isView h v0 v2).bind fun y3 => if y3 = 0 then b_X8_get_21 v0 v1 v2 h v0 1 else b_X8_get_21 v0 v1 v2 h v0 0
def f_X8_get (h : HP) (v0 : Nat) (v1 : Int32) (v2 : Int32) : Option (Int32 × HP) := (kO 8 h v0).bind fun _ => b_X8_get_0 v0 v1 v2 h
theorem w_X8_get_21 {l : Launch} {X : SCR} {Q : PST} {bc bs : Nat} {res : Int32 × HP} {h : HP} (hQ : ∀ sz', Q (.inl (some (.int res.1))) res.2 sz') {v0 : Nat} {v1 : Int32} {v2 : Int32} {s0 : Nat} {s1 : Int32} {sz : Nat} (hf : b_X8_get_21 v0 v1 v2 h s0 s1 = some res) : SP l X M_X8_get 21 [(0, .ref v0), (1, .int v1), (2, .int v2)] [.int s1, .ref s0] h sz bc bs Q := by
  rw [b_X8_get_21] at hf
  obtain ⟨y1, ey1, hf⟩ := ob hf
  obtain ⟨fsy1, hoy1⟩ := o_X8_holds ey1
  refine sp_callVi (pc := 21) (z := M_X8_holds) (As := [.int s1]) (b := s0) (bc2 := bc) (bs2 := bs) (m_X8_holds (Q := _) (fun sz => ⟨y1.1, rfl, ?_⟩) ey1) rfl dX8_get_21 hoy1 rfl rfl ck_X8_get_124 (Nat.le_of_ble_eq_true rfl) rfl rfl rfl
  refine sp_if_eq (pc := 24) (tgt := 36) dX8_get_24 (by decide) (fun c2 => ?_) (fun c2 => ?_)
  · rw [if_pos c2] at hf
    refine sp_iconst (pc := 36) (v := 0) dX8_get_36 (by decide) ?_
    obtain rfl := Option.some.inj hf
    exact sp_ireturn (pc := 37) dX8_get_37 rfl rfl (hQ _)
  · rw [if_neg c2] at hf
    refine sp_aload_n (pc := 27) dX8_get_27 0 rfl ?_
    refine sp_iload_n (pc := 28) dX8_get_28 1 rfl ?_
    refine sp_iload_n (pc := 29) dX8_get_29 2 rfl ?_
    obtain ⟨y3, ey3, hf⟩ := ob hf
    obtain ⟨fsy3, hoy3⟩ := o_X8_seen ey3
    refine sp_callVi (pc := 30) (z := M_X8_seen) (As := [.int v1, .int v2]) (b := v0) (bc2 := bc) (bs2 := bs) (m_X8_seen (Q := _) (fun sz => ⟨y3, rfl, ?_⟩) ey3) rfl dX8_get_30 hoy3 rfl rfl ck_X8_get_72 (Nat.le_of_ble_eq_true rfl) rfl rfl rfl
    refine sp_goto (pc := 33) (tgt := 37) dX8_get_33 (by decide) ?_
    obtain rfl := Option.some.inj hf
    exact sp_ireturn (pc := 37) dX8_get_37 rfl rfl (hQ _)

theorem w_X8_get_0 {l : Launch} {X : SCR} {Q : PST} {bc bs : Nat} {res : Int32 × HP} {h : HP} (hQ : ∀ sz', Q (.inl (some (.int res.1))) res.2 sz') {v0 : Nat} {v1 : Int32} {v2 : Int32} {sz : Nat} (hf : b_X8_get_0 v0 v1 v2 h  = some res) : SP l X M_X8_get 0 [(0, .ref v0), (1, .int v1), (2, .int v2)] [] h sz bc bs Q := by
  rw [b_X8_get_0] at hf
  refine sp_aload_n (pc := 0) dX8_get_0 0 rfl ?_
  refine sp_iload_n (pc := 1) dX8_get_1 1 rfl ?_
  obtain ⟨y1, ey1, hf⟩ := ob hf
  refine sp_callSi (pc := 2) (z := M_X8_isKey) (As := [.int v1]) (bc2 := bc) (bs2 := bs) (m_X8_isKey (Q := _) (fun sz => ⟨y1, rfl, ?_⟩) ey1) rfl dX8_get_2 rfl ck_X8_get_97 (Nat.le_of_ble_eq_true rfl) rfl rfl rfl
  refine sp_if_eq (pc := 5) (tgt := 20) dX8_get_5 (by decide) (fun c2 => ?_) (fun c2 => ?_)
  · rw [if_pos c2] at hf
    refine sp_iconst (pc := 20) (v := 1) dX8_get_20 (by decide) ?_
    exact (w_X8_get_21 hQ hf)
  · rw [if_neg c2] at hf
    refine sp_aload_n (pc := 8) dX8_get_8 0 rfl ?_
    refine sp_iload_n (pc := 9) dX8_get_9 2 rfl ?_
    obtain ⟨y3, ey3, hf⟩ := ob hf
    obtain ⟨fsy3, hoy3⟩ := o_X8_isView ey3
    refine sp_callVi (pc := 10) (z := M_X8_isView) (As := [.int v2]) (b := v0) (bc2 := bc) (bs2 := bs) (m_X8_isView (Q := _) (fun sz => ⟨y3, rfl, ?_⟩) ey3) rfl dX8_get_10 hoy3 rfl rfl ck_X8_get_200 (Nat.le_of_ble_eq_true rfl) rfl rfl rfl
    refine sp_if_eq (pc := 13) (tgt := 20) dX8_get_13 (by decide) (fun c4 => ?_) (fun c4 => ?_)
    · rw [if_pos c4] at hf
      refine sp_iconst (pc := 20) (v := 1) dX8_get_20 (by decide) ?_
      exact (w_X8_get_21 hQ hf)
    · rw [if_neg c4] at hf
      refine sp_iconst (pc := 16) (v := 0) dX8_get_16 (by decide) ?_
      refine sp_goto (pc := 17) (tgt := 21) dX8_get_17 (by decide) ?_
      exact (w_X8_get_21 hQ hf)

theorem o_X8_get {h : HP} {v0 : Nat} {v1 : Int32} {v2 : Int32} {res : Int32 × HP} (hf : f_X8_get h v0 v1 v2 = some res) : ∃ fs, h v0 = some (.inr (8, fs)) := by
  obtain ⟨u, eu, -⟩ := ob hf
  exact kO_spec eu

theorem m_X8_get {l : Launch} {Q : PST} {h : HP} {v0 : Nat} {v1 : Int32} {v2 : Int32} {sz : Nat} {res : Int32 × HP} (hQ : ∀ sz', Q (.inl (some (.int res.1))) res.2 sz') (hf : f_X8_get h v0 v1 v2 = some res) : MM l M_X8_get [.ref v0, .int v1, .int v2] h sz Q := by
  obtain ⟨u, eu, hf⟩ := ob hf
  exact MM_of wok_X8_get (by decide +kernel) (Nat.le_of_ble_eq_true rfl) ((w_X8_get_0 hQ hf))

theorem dX8_keysOf_0 : decode (mB M_X8_keysOf) 0 = .ok (.iconst 0, 1) := by decide +kernel
theorem dX8_keysOf_1 : decode (mB M_X8_keysOf) 1 = .ok (.istore_n 3, 1) := by decide +kernel
theorem dX8_keysOf_2 : decode (mB M_X8_keysOf) 2 = .ok (.iconst 0, 1) := by decide +kernel
theorem dX8_keysOf_3 : decode (mB M_X8_keysOf) 3 = .ok (.istore 4, 2) := by decide +kernel
theorem dX8_keysOf_5 : decode (mB M_X8_keysOf) 5 = .ok (.iload 4, 2) := by decide +kernel
theorem dX8_keysOf_7 : decode (mB M_X8_keysOf) 7 = .ok (.bipush 100, 2) := by decide +kernel
theorem dX8_keysOf_9 : decode (mB M_X8_keysOf) 9 = .ok (.if_icmp .ge 63, 3) := by decide +kernel
theorem dX8_keysOf_12 : decode (mB M_X8_keysOf) 12 = .ok (.iconst 0, 1) := by decide +kernel
theorem dX8_keysOf_13 : decode (mB M_X8_keysOf) 13 = .ok (.istore 5, 2) := by decide +kernel
theorem dX8_keysOf_15 : decode (mB M_X8_keysOf) 15 = .ok (.iload_n 1, 1) := by decide +kernel
theorem dX8_keysOf_16 : decode (mB M_X8_keysOf) 16 = .ok (.istore 6, 2) := by decide +kernel
theorem dX8_keysOf_18 : decode (mB M_X8_keysOf) 18 = .ok (.iload 6, 2) := by decide +kernel
theorem dX8_keysOf_20 : decode (mB M_X8_keysOf) 20 = .ok (.iload_n 2, 1) := by decide +kernel
theorem dX8_keysOf_21 : decode (mB M_X8_keysOf) 21 = .ok (.if_icmp .ge 32, 3) := by decide +kernel
theorem dX8_keysOf_24 : decode (mB M_X8_keysOf) 24 = .ok (.iload 5, 2) := by decide +kernel
theorem dX8_keysOf_26 : decode (mB M_X8_keysOf) 26 = .ok (.ifCond .ne 14, 3) := by decide +kernel
theorem dX8_keysOf_29 : decode (mB M_X8_keysOf) 29 = .ok (.aload_n 0, 1) := by decide +kernel
theorem dX8_keysOf_30 : decode (mB M_X8_keysOf) 30 = .ok (.iload 6, 2) := by decide +kernel
theorem dX8_keysOf_32 : decode (mB M_X8_keysOf) 32 = .ok (.iload 4, 2) := by decide +kernel
theorem dX8_keysOf_34 : decode (mB M_X8_keysOf) 34 = .ok (.invokevirtual 58, 3) := by decide +kernel
theorem dX8_keysOf_37 : decode (mB M_X8_keysOf) 37 = .ok (.ifCond .eq 7, 3) := by decide +kernel
theorem dX8_keysOf_40 : decode (mB M_X8_keysOf) 40 = .ok (.iconst 1, 1) := by decide +kernel
theorem dX8_keysOf_41 : decode (mB M_X8_keysOf) 41 = .ok (.goto 4, 3) := by decide +kernel
theorem dX8_keysOf_44 : decode (mB M_X8_keysOf) 44 = .ok (.iconst 0, 1) := by decide +kernel
theorem dX8_keysOf_45 : decode (mB M_X8_keysOf) 45 = .ok (.istore 5, 2) := by decide +kernel
theorem dX8_keysOf_47 : decode (mB M_X8_keysOf) 47 = .ok (.iinc 6 1, 3) := by decide +kernel
theorem dX8_keysOf_50 : decode (mB M_X8_keysOf) 50 = .ok (.goto (-32), 3) := by decide +kernel
theorem dX8_keysOf_53 : decode (mB M_X8_keysOf) 53 = .ok (.iload_n 3, 1) := by decide +kernel
theorem dX8_keysOf_54 : decode (mB M_X8_keysOf) 54 = .ok (.iload 5, 2) := by decide +kernel
theorem dX8_keysOf_56 : decode (mB M_X8_keysOf) 56 = .ok (.ifCond .eq 7, 3) := by decide +kernel
theorem dX8_keysOf_59 : decode (mB M_X8_keysOf) 59 = .ok (.iconst 1, 1) := by decide +kernel
theorem dX8_keysOf_60 : decode (mB M_X8_keysOf) 60 = .ok (.goto 4, 3) := by decide +kernel
theorem dX8_keysOf_63 : decode (mB M_X8_keysOf) 63 = .ok (.iconst 0, 1) := by decide +kernel
theorem dX8_keysOf_64 : decode (mB M_X8_keysOf) 64 = .ok (.iadd, 1) := by decide +kernel
theorem dX8_keysOf_65 : decode (mB M_X8_keysOf) 65 = .ok (.istore_n 3, 1) := by decide +kernel
theorem dX8_keysOf_66 : decode (mB M_X8_keysOf) 66 = .ok (.iinc 4 1, 3) := by decide +kernel
theorem dX8_keysOf_69 : decode (mB M_X8_keysOf) 69 = .ok (.goto (-64), 3) := by decide +kernel
theorem dX8_keysOf_72 : decode (mB M_X8_keysOf) 72 = .ok (.iload_n 3, 1) := by decide +kernel
theorem dX8_keysOf_73 : decode (mB M_X8_keysOf) 73 = .ok (.ireturn, 1) := by decide +kernel
def c_X8_keysOf_18 (h : HP) (v0 : Nat) (v1 : Int32) (v2 : Int32) (k5 : Int32 → Int32 → Option (Int32)) (k18 : Int32 → Int32 → Int32 → Int32 → Option (Int32)) (v3 : Int32) (v4 : Int32) (v5 : Int32) (v6 : Int32) : Option (Int32) :=
  if v2 ≤ v6 then if v5 = 0 then k5 (v3 + 0) (v4 + 1) else k5 (v3 + 1) (v4 + 1) else if v5 = 0 then (f_X8_concerns h v0 v6 v4).bind fun y4 => if y4 = 0 then k18 v3 v4 0 (v6 + 1) else k18 v3 v4 1 (v6 + 1) else k18 v3 v4 1 (v6 + 1)
def b_X8_keysOf_18 (h : HP) (v0 : Nat) (v1 : Int32) (v2 : Int32) (k5 : Int32 → Int32 → Option (Int32)) : Nat → Int32 → Int32 → Int32 → Int32 → Option (Int32)
  | 0, _, _, _, _ => none
  | n + 1, v3, v4, v5, v6 => c_X8_keysOf_18 h v0 v1 v2 k5 (b_X8_keysOf_18 h v0 v1 v2 k5 n) v3 v4 v5 v6
def c_X8_keysOf_5 (h : HP) (v0 : Nat) (v1 : Int32) (v2 : Int32) (k5 : Int32 → Int32 → Option (Int32)) (v3 : Int32) (v4 : Int32) : Option (Int32) :=
  if 100 ≤ v4 then some (v3) else b_X8_keysOf_18 h v0 v1 v2 k5 FU v3 v4 0 v1
def b_X8_keysOf_5 (h : HP) (v0 : Nat) (v1 : Int32) (v2 : Int32) : Nat → Int32 → Int32 → Option (Int32)
  | 0, _, _ => none
  | n + 1, v3, v4 => c_X8_keysOf_5 h v0 v1 v2 (b_X8_keysOf_5 h v0 v1 v2 n) v3 v4
def b_X8_keysOf_0 (h : HP) (v0 : Nat) (v1 : Int32) (v2 : Int32) : Option (Int32) :=
  b_X8_keysOf_5 h v0 v1 v2 FU 0 0
def f_X8_keysOf (h : HP) (v0 : Nat) (v1 : Int32) (v2 : Int32) : Option (Int32) := (kO 8 h v0).bind fun _ => b_X8_keysOf_0 h v0 v1 v2
theorem wc_X8_keysOf_18 {l : Launch} {X : SCR} {Q : PST} {bc bs : Nat} {res : Int32} {h : HP} (hQ : ∀ sz', Q (.inl (some (.int res))) h sz') {v0 : Nat} {v1 : Int32} {v2 : Int32} {k5 : Int32 → Int32 → Option (Int32)} (hk5 : ∀ (v3 : Int32) (v4 : Int32) (sz : Nat), k5 v3 v4 = some res → SP l X M_X8_keysOf 5 [(0, .ref v0), (1, .int v1), (2, .int v2), (3, .int v3), (4, .int v4)] [] h sz bc bs Q) {k18 : Int32 → Int32 → Int32 → Int32 → Option (Int32)} (hk18 : ∀ (v3 : Int32) (v4 : Int32) (v5 : Int32) (v6 : Int32) (sz : Nat), k18 v3 v4 v5 v6 = some res → SP l X M_X8_keysOf 18 [(0, .ref v0), (1, .int v1), (2, .int v2), (3, .int v3), (4, .int v4), (5, .int v5), (6, .int v6)] [] h sz bc bs Q) {v3 : Int32} {v4 : Int32} {v5 : Int32} {v6 : Int32} {sz : Nat} (hf : c_X8_keysOf_18 h v0 v1 v2 k5 k18 v3 v4 v5 v6 = some res) : SP l X M_X8_keysOf 18 [(0, .ref v0), (1, .int v1), (2, .int v2), (3, .int v3), (4, .int v4), (5, .int v5), (6, .int v6)] [] h sz bc bs Q := by
  rw [c_X8_keysOf_18] at hf
  refine sp_iload (pc := 18) dX8_keysOf_18 6 rfl ?_
  refine sp_iload_n (pc := 20) dX8_keysOf_20 2 rfl ?_
  refine sp_icmp_ge (pc := 21) (tgt := 53) dX8_keysOf_21 (by decide) (fun c1 => ?_) (fun c1 => ?_)
  · rw [if_pos c1] at hf
    refine sp_iload_n (pc := 53) dX8_keysOf_53 3 rfl ?_
    refine sp_iload (pc := 54) dX8_keysOf_54 5 rfl ?_
    refine sp_if_eq (pc := 56) (tgt := 63) dX8_keysOf_56 (by decide) (fun c2 => ?_) (fun c2 => ?_)
    · rw [if_pos c2] at hf
      refine sp_iconst (pc := 63) (v := 0) dX8_keysOf_63 (by decide) ?_
      refine sp_iadd (pc := 64) dX8_keysOf_64 ?_
      refine sp_istore_n (pc := 65) (lv' := [(3, .int (v3 + 0)), (0, .ref v0), (1, .int v1), (2, .int v2), (4, .int v4), (5, .int v5), (6, .int v6)]) dX8_keysOf_65 (by decide) rfl ?_
      refine sp_iinc (pc := 66) (v := v4 + 1) (lv' := [(4, .int (v4 + 1)), (3, .int (v3 + 0)), (0, .ref v0), (1, .int v1), (2, .int v2), (5, .int v5), (6, .int v6)]) dX8_keysOf_66 4 rfl rfl (by decide) rfl ?_
      refine sp_goto (pc := 69) (tgt := 5) dX8_keysOf_69 (by decide) ?_
      exact sp_sub [2, 3, 4, 1, 0] rfl (hk5 _ _ _ hf)
    · rw [if_neg c2] at hf
      refine sp_iconst (pc := 59) (v := 1) dX8_keysOf_59 (by decide) ?_
      refine sp_goto (pc := 60) (tgt := 64) dX8_keysOf_60 (by decide) ?_
      refine sp_iadd (pc := 64) dX8_keysOf_64 ?_
      refine sp_istore_n (pc := 65) (lv' := [(3, .int (v3 + 1)), (0, .ref v0), (1, .int v1), (2, .int v2), (4, .int v4), (5, .int v5), (6, .int v6)]) dX8_keysOf_65 (by decide) rfl ?_
      refine sp_iinc (pc := 66) (v := v4 + 1) (lv' := [(4, .int (v4 + 1)), (3, .int (v3 + 1)), (0, .ref v0), (1, .int v1), (2, .int v2), (5, .int v5), (6, .int v6)]) dX8_keysOf_66 4 rfl rfl (by decide) rfl ?_
      refine sp_goto (pc := 69) (tgt := 5) dX8_keysOf_69 (by decide) ?_
      exact sp_sub [2, 3, 4, 1, 0] rfl (hk5 _ _ _ hf)
  · rw [if_neg c1] at hf
    refine sp_iload (pc := 24) dX8_keysOf_24 5 rfl ?_
    refine sp_if_ne (pc := 26) (tgt := 40) dX8_keysOf_26 (by decide) (fun c3 => ?_) (fun c3 => ?_)
    · rw [if_neg c3] at hf
      refine sp_iconst (pc := 40) (v := 1) dX8_keysOf_40 (by decide) ?_
      refine sp_goto (pc := 41) (tgt := 45) dX8_keysOf_41 (by decide) ?_
      refine sp_istore (pc := 45) (lv' := [(5, .int 1), (0, .ref v0), (1, .int v1), (2, .int v2), (3, .int v3), (4, .int v4), (6, .int v6)]) dX8_keysOf_45 (by decide) rfl ?_
      refine sp_iinc (pc := 47) (v := v6 + 1) (lv' := [(6, .int (v6 + 1)), (5, .int 1), (0, .ref v0), (1, .int v1), (2, .int v2), (3, .int v3), (4, .int v4)]) dX8_keysOf_47 6 rfl rfl (by decide) rfl ?_
      refine sp_goto (pc := 50) (tgt := 18) dX8_keysOf_50 (by decide) ?_
      exact sp_sub [2, 3, 4, 5, 6, 1, 0] rfl (hk18 _ _ _ _ _ hf)
    · rw [if_pos c3] at hf
      refine sp_aload_n (pc := 29) dX8_keysOf_29 0 rfl ?_
      refine sp_iload (pc := 30) dX8_keysOf_30 6 rfl ?_
      refine sp_iload (pc := 32) dX8_keysOf_32 4 rfl ?_
      obtain ⟨y4, ey4, hf⟩ := ob hf
      obtain ⟨fsy4, hoy4⟩ := o_X8_concerns ey4
      refine sp_callVi (pc := 34) (z := M_X8_concerns) (As := [.int v6, .int v4]) (b := v0) (bc2 := bc) (bs2 := bs) (m_X8_concerns (Q := _) (fun sz => ⟨y4, rfl, ?_⟩) ey4) rfl dX8_keysOf_34 hoy4 rfl rfl ck_X8_keysOf_58 (Nat.le_of_ble_eq_true rfl) rfl rfl rfl
      refine sp_if_eq (pc := 37) (tgt := 44) dX8_keysOf_37 (by decide) (fun c5 => ?_) (fun c5 => ?_)
      · rw [if_pos c5] at hf
        refine sp_iconst (pc := 44) (v := 0) dX8_keysOf_44 (by decide) ?_
        refine sp_istore (pc := 45) (lv' := [(5, .int 0), (0, .ref v0), (1, .int v1), (2, .int v2), (3, .int v3), (4, .int v4), (6, .int v6)]) dX8_keysOf_45 (by decide) rfl ?_
        refine sp_iinc (pc := 47) (v := v6 + 1) (lv' := [(6, .int (v6 + 1)), (5, .int 0), (0, .ref v0), (1, .int v1), (2, .int v2), (3, .int v3), (4, .int v4)]) dX8_keysOf_47 6 rfl rfl (by decide) rfl ?_
        refine sp_goto (pc := 50) (tgt := 18) dX8_keysOf_50 (by decide) ?_
        exact sp_sub [2, 3, 4, 5, 6, 1, 0] rfl (hk18 _ _ _ _ _ hf)
      · rw [if_neg c5] at hf
        refine sp_iconst (pc := 40) (v := 1) dX8_keysOf_40 (by decide) ?_
        refine sp_goto (pc := 41) (tgt := 45) dX8_keysOf_41 (by decide) ?_
        refine sp_istore (pc := 45) (lv' := [(5, .int 1), (0, .ref v0), (1, .int v1), (2, .int v2), (3, .int v3), (4, .int v4), (6, .int v6)]) dX8_keysOf_45 (by decide) rfl ?_
        refine sp_iinc (pc := 47) (v := v6 + 1) (lv' := [(6, .int (v6 + 1)), (5, .int 1), (0, .ref v0), (1, .int v1), (2, .int v2), (3, .int v3), (4, .int v4)]) dX8_keysOf_47 6 rfl rfl (by decide) rfl ?_
        refine sp_goto (pc := 50) (tgt := 18) dX8_keysOf_50 (by decide) ?_
        exact sp_sub [2, 3, 4, 5, 6, 1, 0] rfl (hk18 _ _ _ _ _ hf)

theorem w_X8_keysOf_18 {l : Launch} {X : SCR} {Q : PST} {bc bs : Nat} {res : Int32} {h : HP} (hQ : ∀ sz', Q (.inl (some (.int res))) h sz') {v0 : Nat} {v1 : Int32} {v2 : Int32} {k5 : Int32 → Int32 → Option (Int32)} (hk5 : ∀ (v3 : Int32) (v4 : Int32) (sz : Nat), k5 v3 v4 = some res → SP l X M_X8_keysOf 5 [(0, .ref v0), (1, .int v1), (2, .int v2), (3, .int v3), (4, .int v4)] [] h sz bc bs Q) : ∀ (n : Nat) {v3 : Int32} {v4 : Int32} {v5 : Int32} {v6 : Int32} {sz : Nat}, b_X8_keysOf_18 h v0 v1 v2 k5 n v3 v4 v5 v6 = some res → SP l X M_X8_keysOf 18 [(0, .ref v0), (1, .int v1), (2, .int v2), (3, .int v3), (4, .int v4), (5, .int v5), (6, .int v6)] [] h sz bc bs Q := by
  intro n
  induction n with
  | zero =>
    intro v3 v4 v5 v6 sz hf
    rw [b_X8_keysOf_18] at hf
    cases hf
  | succ n ih =>
    intro v3 v4 v5 v6 sz hf
    rw [b_X8_keysOf_18] at hf
    exact wc_X8_keysOf_18 hQ hk5 (fun v3 v4 v5 v6 sz hf => ih hf) hf

theorem wc_X8_keysOf_5 {l : Launch} {X : SCR} {Q : PST} {bc bs : Nat} {res : Int32} {h : HP} (hQ : ∀ sz', Q (.inl (some (.int res))) h sz') {v0 : Nat} {v1 : Int32} {v2 : Int32} {k5 : Int32 → Int32 → Option (Int32)} (hk5 : ∀ (v3 : Int32) (v4 : Int32) (sz : Nat), k5 v3 v4 = some res → SP l X M_X8_keysOf 5 [(0, .ref v0), (1, .int v1), (2, .int v2), (3, .int v3), (4, .int v4)] [] h sz bc bs Q) {v3 : Int32} {v4 : Int32} {sz : Nat} (hf : c_X8_keysOf_5 h v0 v1 v2 k5 v3 v4 = some res) : SP l X M_X8_keysOf 5 [(0, .ref v0), (1, .int v1), (2, .int v2), (3, .int v3), (4, .int v4)] [] h sz bc bs Q := by
  rw [c_X8_keysOf_5] at hf
  refine sp_iload (pc := 5) dX8_keysOf_5 4 rfl ?_
  refine sp_bipush (pc := 7) (v := 100) dX8_keysOf_7 (by decide) ?_
  refine sp_icmp_ge (pc := 9) (tgt := 72) dX8_keysOf_9 (by decide) (fun c1 => ?_) (fun c1 => ?_)
  · rw [if_pos c1] at hf
    refine sp_iload_n (pc := 72) dX8_keysOf_72 3 rfl ?_
    obtain rfl := Option.some.inj hf
    exact sp_ireturn (pc := 73) dX8_keysOf_73 rfl rfl (hQ _)
  · rw [if_neg c1] at hf
    refine sp_iconst (pc := 12) (v := 0) dX8_keysOf_12 (by decide) ?_
    refine sp_istore (pc := 13) (lv' := [(5, .int 0), (0, .ref v0), (1, .int v1), (2, .int v2), (3, .int v3), (4, .int v4)]) dX8_keysOf_13 (by decide) rfl ?_
    refine sp_iload_n (pc := 15) dX8_keysOf_15 2 rfl ?_
    refine sp_istore (pc := 16) (lv' := [(6, .int v1), (5, .int 0), (0, .ref v0), (1, .int v1), (2, .int v2), (3, .int v3), (4, .int v4)]) dX8_keysOf_16 (by decide) rfl ?_
    exact sp_sub [2, 3, 4, 5, 6, 1, 0] rfl (w_X8_keysOf_18 hQ hk5 FU hf)

theorem w_X8_keysOf_5 {l : Launch} {X : SCR} {Q : PST} {bc bs : Nat} {res : Int32} {h : HP} (hQ : ∀ sz', Q (.inl (some (.int res))) h sz') {v0 : Nat} {v1 : Int32} {v2 : Int32} : ∀ (n : Nat) {v3 : Int32} {v4 : Int32} {sz : Nat}, b_X8_keysOf_5 h v0 v1 v2 n v3 v4 = some res → SP l X M_X8_keysOf 5 [(0, .ref v0), (1, .int v1), (2, .int v2), (3, .int v3), (4, .int v4)] [] h sz bc bs Q := by
  intro n
  induction n with
  | zero =>
    intro v3 v4 sz hf
    rw [b_X8_keysOf_5] at hf
    cases hf
  | succ n ih =>
    intro v3 v4 sz hf
    rw [b_X8_keysOf_5] at hf
    exact wc_X8_keysOf_5 hQ (fun v3 v4 sz hf => ih hf) hf

theorem w_X8_keysOf_0 {l : Launch} {X : SCR} {Q : PST} {bc bs : Nat} {res : Int32} {h : HP} (hQ : ∀ sz', Q (.inl (some (.int res))) h sz') {v0 : Nat} {v1 : Int32} {v2 : Int32} {sz : Nat} (hf : b_X8_keysOf_0 h v0 v1 v2  = some res) : SP l X M_X8_keysOf 0 [(0, .ref v0), (1, .int v1), (2, .int v2)] [] h sz bc bs Q := by
  rw [b_X8_keysOf_0] at hf
  refine sp_iconst (pc := 0) (v := 0) dX8_keysOf_0 (by decide) ?_
  refine sp_istore_n (pc := 1) (lv' := [(3, .int 0), (0, .ref v0), (1, .int v1), (2, .int v2)]) dX8_keysOf_1 (by decide) rfl ?_
  refine sp_iconst (pc := 2) (v := 0) dX8_keysOf_2 (by decide) ?_
  refine sp_istore (pc := 3) (lv' := [(4, .int 0), (3, .int 0), (0, .ref v0), (1, .int v1), (2, .int v2)]) dX8_keysOf_3 (by decide) rfl ?_
  exact sp_sub [2, 3, 4, 1, 0] rfl (w_X8_keysOf_5 hQ FU hf)

theorem o_X8_keysOf {h : HP} {v0 : Nat} {v1 : Int32} {v2 : Int32} {res : Int32} (hf : f_X8_keysOf h v0 v1 v2 = some res) : ∃ fs, h v0 = some (.inr (8, fs)) := by
  obtain ⟨u, eu, -⟩ := ob hf
  exact kO_spec eu

theorem m_X8_keysOf {l : Launch} {Q : PST} {h : HP} {v0 : Nat} {v1 : Int32} {v2 : Int32} {sz : Nat} {res : Int32} (hQ : ∀ sz', Q (.inl (some (.int res))) h sz') (hf : f_X8_keysOf h v0 v1 v2 = some res) : MM l M_X8_keysOf [.ref v0, .int v1, .int v2] h sz Q := by
  obtain ⟨u, eu, hf⟩ := ob hf
  exact MM_of wok_X8_keysOf (by decide +kernel) (Nat.le_of_ble_eq_true rfl) ((w_X8_keysOf_0 hQ hf))

theorem dX8_ofRun_0 : decode (mB M_X8_ofRun) 0 = .ok (.aload_n 0, 1) := by decide +kernel
theorem dX8_ofRun_1 : decode (mB M_X8_ofRun) 1 = .ok (.iload_n 1, 1) := by decide +kernel
theorem dX8_ofRun_2 : decode (mB M_X8_ofRun) 2 = .ok (.invokevirtual 46, 3) := by decide +kernel
theorem dX8_ofRun_5 : decode (mB M_X8_ofRun) 5 = .ok (.istore_n 3, 1) := by decide +kernel
theorem dX8_ofRun_6 : decode (mB M_X8_ofRun) 6 = .ok (.iload_n 3, 1) := by decide +kernel
theorem dX8_ofRun_7 : decode (mB M_X8_ofRun) 7 = .ok (.aload_n 0, 1) := by decide +kernel
theorem dX8_ofRun_8 : decode (mB M_X8_ofRun) 8 = .ok (.iload_n 1, 1) := by decide +kernel
theorem dX8_ofRun_9 : decode (mB M_X8_ofRun) 9 = .ok (.invokevirtual 203, 3) := by decide +kernel
theorem dX8_ofRun_12 : decode (mB M_X8_ofRun) 12 = .ok (.iadd, 1) := by decide +kernel
theorem dX8_ofRun_13 : decode (mB M_X8_ofRun) 13 = .ok (.istore 4, 2) := by decide +kernel
theorem dX8_ofRun_15 : decode (mB M_X8_ofRun) 15 = .ok (.iload_n 2, 1) := by decide +kernel
theorem dX8_ofRun_16 : decode (mB M_X8_ofRun) 16 = .ok (.tableswitch 94 0 3 #[32, 32, 49, 70], 32) := by decide +kernel
theorem dX8_ofRun_48 : decode (mB M_X8_ofRun) 48 = .ok (.aload_n 0, 1) := by decide +kernel
theorem dX8_ofRun_49 : decode (mB M_X8_ofRun) 49 = .ok (.iload_n 3, 1) := by decide +kernel
theorem dX8_ofRun_50 : decode (mB M_X8_ofRun) 50 = .ok (.iload 4, 2) := by decide +kernel
theorem dX8_ofRun_52 : decode (mB M_X8_ofRun) 52 = .ok (.iload_n 2, 1) := by decide +kernel
theorem dX8_ofRun_53 : decode (mB M_X8_ofRun) 53 = .ok (.ifCond .ne 7, 3) := by decide +kernel
theorem dX8_ofRun_56 : decode (mB M_X8_ofRun) 56 = .ok (.iconst 1, 1) := by decide +kernel
theorem dX8_ofRun_57 : decode (mB M_X8_ofRun) 57 = .ok (.goto 4, 3) := by decide +kernel
theorem dX8_ofRun_60 : decode (mB M_X8_ofRun) 60 = .ok (.iconst 0, 1) := by decide +kernel
theorem dX8_ofRun_61 : decode (mB M_X8_ofRun) 61 = .ok (.invokevirtual 190, 3) := by decide +kernel
theorem dX8_ofRun_64 : decode (mB M_X8_ofRun) 64 = .ok (.ireturn, 1) := by decide +kernel
theorem dX8_ofRun_65 : decode (mB M_X8_ofRun) 65 = .ok (.iload_n 3, 1) := by decide +kernel
theorem dX8_ofRun_66 : decode (mB M_X8_ofRun) 66 = .ok (.iload 4, 2) := by decide +kernel
theorem dX8_ofRun_68 : decode (mB M_X8_ofRun) 68 = .ok (.if_icmp .ne 7, 3) := by decide +kernel
theorem dX8_ofRun_71 : decode (mB M_X8_ofRun) 71 = .ok (.iconst (-1), 1) := by decide +kernel
theorem dX8_ofRun_72 : decode (mB M_X8_ofRun) 72 = .ok (.goto 13, 3) := by decide +kernel
theorem dX8_ofRun_75 : decode (mB M_X8_ofRun) 75 = .ok (.aload_n 0, 1) := by decide +kernel
theorem dX8_ofRun_76 : decode (mB M_X8_ofRun) 76 = .ok (.getfield 7, 3) := by decide +kernel
theorem dX8_ofRun_79 : decode (mB M_X8_ofRun) 79 = .ok (.iload_n 3, 1) := by decide +kernel
theorem dX8_ofRun_80 : decode (mB M_X8_ofRun) 80 = .ok (.iconst 0, 1) := by decide +kernel
theorem dX8_ofRun_81 : decode (mB M_X8_ofRun) 81 = .ok (.invokestatic 50, 3) := by decide +kernel
theorem dX8_ofRun_84 : decode (mB M_X8_ofRun) 84 = .ok (.iaload, 1) := by decide +kernel
theorem dX8_ofRun_85 : decode (mB M_X8_ofRun) 85 = .ok (.ireturn, 1) := by decide +kernel
theorem dX8_ofRun_86 : decode (mB M_X8_ofRun) 86 = .ok (.iload_n 3, 1) := by decide +kernel
theorem dX8_ofRun_87 : decode (mB M_X8_ofRun) 87 = .ok (.iload 4, 2) := by decide +kernel
theorem dX8_ofRun_89 : decode (mB M_X8_ofRun) 89 = .ok (.if_icmp .ne 7, 3) := by decide +kernel
theorem dX8_ofRun_92 : decode (mB M_X8_ofRun) 92 = .ok (.iconst (-1), 1) := by decide +kernel
theorem dX8_ofRun_93 : decode (mB M_X8_ofRun) 93 = .ok (.goto 16, 3) := by decide +kernel
theorem dX8_ofRun_96 : decode (mB M_X8_ofRun) 96 = .ok (.aload_n 0, 1) := by decide +kernel
theorem dX8_ofRun_97 : decode (mB M_X8_ofRun) 97 = .ok (.getfield 7, 3) := by decide +kernel
theorem dX8_ofRun_100 : decode (mB M_X8_ofRun) 100 = .ok (.iload 4, 2) := by decide +kernel
theorem dX8_ofRun_102 : decode (mB M_X8_ofRun) 102 = .ok (.iconst 1, 1) := by decide +kernel
theorem dX8_ofRun_103 : decode (mB M_X8_ofRun) 103 = .ok (.isub, 1) := by decide +kernel
theorem dX8_ofRun_104 : decode (mB M_X8_ofRun) 104 = .ok (.iconst 0, 1) := by decide +kernel
theorem dX8_ofRun_105 : decode (mB M_X8_ofRun) 105 = .ok (.invokestatic 50, 3) := by decide +kernel
theorem dX8_ofRun_108 : decode (mB M_X8_ofRun) 108 = .ok (.iaload, 1) := by decide +kernel
theorem dX8_ofRun_109 : decode (mB M_X8_ofRun) 109 = .ok (.ireturn, 1) := by decide +kernel
theorem dX8_ofRun_110 : decode (mB M_X8_ofRun) 110 = .ok (.aload_n 0, 1) := by decide +kernel
theorem dX8_ofRun_111 : decode (mB M_X8_ofRun) 111 = .ok (.iload_n 3, 1) := by decide +kernel
theorem dX8_ofRun_112 : decode (mB M_X8_ofRun) 112 = .ok (.iload 4, 2) := by decide +kernel
theorem dX8_ofRun_114 : decode (mB M_X8_ofRun) 114 = .ok (.invokevirtual 206, 3) := by decide +kernel
theorem dX8_ofRun_117 : decode (mB M_X8_ofRun) 117 = .ok (.ireturn, 1) := by decide +kernel
def b_X8_ofRun_61 (h : HP) (s0 : Nat) (s1 : Int32) (s2 : Int32) (s3 : Int32) : Option (Int32) :=
  (f_X8_kinds h s0 s1 s2 s3).bind fun y1 => some (y1)
def b_X8_ofRun_48 (h : HP) (v0 : Nat) (v2 : Int32) (v3 : Int32) (v4 : Int32) : Option (Int32) :=
  if v2 = 0 then b_X8_ofRun_61 h v0 v3 v4 1 else b_X8_ofRun_61 h v0 v3 v4 0
def b_X8_ofRun_0 (h : HP) (v0 : Nat) (v1 : Int32) (v2 : Int32) : Option (Int32) :=
  (f_X8_begin h v0 v1).bind fun y1 => (f_X8_manyIn h v0 v1).bind fun y2 => if v2 = 0 then b_X8_ofRun_48 h v0 v2 y1 (y1 + y2) else if v2 = 1 then b_X8_ofRun_48 h v0 v2 y1 (y1 + y2) else if v2 = 2 then if y1 = (y1 + y2) then some ((-1)) else (gR 8 1 h v0).bind fun x7 => (f_X8_of h y1 0).bind fun y8 => (aI h x7 y8).bind fun x9 => some (x9) else if v2 = 3 then if y1 = (y1 + y2) then some ((-1)) else (gR 8 1 h v0).bind fun x12 => (f_X8_of h ((y1 + y2) - 1) 0).bind fun y13 => (aI h x12 y13).bind fun x14 => some (x14) else (f_X8_keysOf h v0 y1 (y1 + y2)).bind fun y15 => some (y15)
def f_X8_ofRun (h : HP) (v0 : Nat) (v1 : Int32) (v2 : Int32) : Option (Int32) := (kO 8 h v0).bind fun _ => b_X8_ofRun_0 h v0 v1 v2
theorem w_X8_ofRun_61 {l : Launch} {X : SCR} {Q : PST} {bc bs : Nat} {res : Int32} {h : HP} (hQ : ∀ sz', Q (.inl (some (.int res))) h sz') {s0 : Nat} {s1 : Int32} {s2 : Int32} {s3 : Int32} {sz : Nat} (hf : b_X8_ofRun_61 h s0 s1 s2 s3 = some res) : SP l X M_X8_ofRun 61 [] [.int s3, .int s2, .int s1, .ref s0] h sz bc bs Q := by
  rw [b_X8_ofRun_61] at hf
  obtain ⟨y1, ey1, hf⟩ := ob hf
  obtain ⟨fsy1, hoy1⟩ := o_X8_kinds ey1
  refine sp_callVi (pc := 61) (z := M_X8_kinds) (As := [.int s1, .int s2, .int s3]) (b := s0) (bc2 := bc) (bs2 := bs) (m_X8_kinds (Q := _) (fun sz => ⟨y1, rfl, ?_⟩) ey1) rfl dX8_ofRun_61 hoy1 rfl rfl ck_X8_ofRun_190 (Nat.le_of_ble_eq_true rfl) rfl rfl rfl
  obtain rfl := Option.some.inj hf
  exact sp_ireturn (pc := 64) dX8_ofRun_64 rfl rfl (hQ _)

theorem w_X8_ofRun_48 {l : Launch} {X : SCR} {Q : PST} {bc bs : Nat} {res : Int32} {h : HP} (hQ : ∀ sz', Q (.inl (some (.int res))) h sz') {v0 : Nat} {v2 : Int32} {v3 : Int32} {v4 : Int32} {sz : Nat} (hf : b_X8_ofRun_48 h v0 v2 v3 v4 = some res) : SP l X M_X8_ofRun 48 [(0, .ref v0), (2, .int v2), (3, .int v3), (4, .int v4)] [] h sz bc bs Q := by
  rw [b_X8_ofRun_48] at hf
  refine sp_aload_n (pc := 48) dX8_ofRun_48 0 rfl ?_
  refine sp_iload_n (pc := 49) dX8_ofRun_49 2 rfl ?_
  refine sp_iload (pc := 50) dX8_ofRun_50 3 rfl ?_
  refine sp_iload_n (pc := 52) dX8_ofRun_52 1 rfl ?_
  refine sp_if_ne (pc := 53) (tgt := 60) dX8_ofRun_53 (by decide) (fun c1 => ?_) (fun c1 => ?_)
  · rw [if_neg c1] at hf
    refine sp_iconst (pc := 60) (v := 0) dX8_ofRun_60 (by decide) ?_
    exact sp_sub [] rfl (w_X8_ofRun_61 hQ hf)
  · rw [if_pos c1] at hf
    refine sp_iconst (pc := 56) (v := 1) dX8_ofRun_56 (by decide) ?_
    refine sp_goto (pc := 57) (tgt := 61) dX8_ofRun_57 (by decide) ?_
    exact sp_sub [] rfl (w_X8_ofRun_61 hQ hf)

theorem w_X8_ofRun_0 {l : Launch} {X : SCR} {Q : PST} {bc bs : Nat} {res : Int32} {h : HP} (hQ : ∀ sz', Q (.inl (some (.int res))) h sz') {v0 : Nat} {v1 : Int32} {v2 : Int32} {sz : Nat} (hf : b_X8_ofRun_0 h v0 v1 v2  = some res) : SP l X M_X8_ofRun 0 [(0, .ref v0), (1, .int v1), (2, .int v2)] [] h sz bc bs Q := by
  rw [b_X8_ofRun_0] at hf
  refine sp_aload_n (pc := 0) dX8_ofRun_0 0 rfl ?_
  refine sp_iload_n (pc := 1) dX8_ofRun_1 1 rfl ?_
  obtain ⟨y1, ey1, hf⟩ := ob hf
  obtain ⟨fsy1, hoy1⟩ := o_X8_begin ey1
  refine sp_callVi (pc := 2) (z := M_X8_begin) (As := [.int v1]) (b := v0) (bc2 := bc) (bs2 := bs) (m_X8_begin (Q := _) (fun sz => ⟨y1, rfl, ?_⟩) ey1) rfl dX8_ofRun_2 hoy1 rfl rfl ck_X8_ofRun_46 (Nat.le_of_ble_eq_true rfl) rfl rfl rfl
  refine sp_istore_n (pc := 5) (lv' := [(3, .int y1), (0, .ref v0), (1, .int v1), (2, .int v2)]) dX8_ofRun_5 (by decide) rfl ?_
  refine sp_iload_n (pc := 6) dX8_ofRun_6 0 rfl ?_
  refine sp_aload_n (pc := 7) dX8_ofRun_7 1 rfl ?_
  refine sp_iload_n (pc := 8) dX8_ofRun_8 2 rfl ?_
  obtain ⟨y2, ey2, hf⟩ := ob hf
  obtain ⟨fsy2, hoy2⟩ := o_X8_manyIn ey2
  refine sp_callVi (pc := 9) (z := M_X8_manyIn) (As := [.int v1]) (b := v0) (bc2 := bc) (bs2 := bs) (m_X8_manyIn (Q := _) (fun sz => ⟨y2, rfl, ?_⟩) ey2) rfl dX8_ofRun_9 hoy2 rfl rfl ck_X8_ofRun_203 (Nat.le_of_ble_eq_true rfl) rfl rfl rfl
  refine sp_iadd (pc := 12) dX8_ofRun_12 ?_
  refine sp_istore (pc := 13) (lv' := [(4, .int (y1 + y2)), (3, .int y1), (0, .ref v0), (1, .int v1), (2, .int v2)]) dX8_ofRun_13 (by decide) rfl ?_
  refine sp_iload_n (pc := 15) dX8_ofRun_15 4 rfl ?_
  by_cases c3 : v2 = 0
  · rw [if_pos c3] at hf
    refine sp_tableIn (pc := 16) (off := 32) (tgt := 48) dX8_ofRun_16 (by rw [c3]; decide) (by rw [c3]; decide) (by rw [c3]; rfl) (by decide) ?_
    exact sp_sub [2, 4, 1, 0] rfl (w_X8_ofRun_48 hQ hf)
  rw [if_neg c3] at hf
  by_cases c4 : v2 = 1
  · rw [if_pos c4] at hf
    refine sp_tableIn (pc := 16) (off := 32) (tgt := 48) dX8_ofRun_16 (by rw [c4]; decide) (by rw [c4]; decide) (by rw [c4]; rfl) (by decide) ?_
    exact sp_sub [2, 4, 1, 0] rfl (w_X8_ofRun_48 hQ hf)
  rw [if_neg c4] at hf
  by_cases c5 : v2 = 2
  · rw [if_pos c5] at hf
    refine sp_tableIn (pc := 16) (off := 49) (tgt := 65) dX8_ofRun_16 (by rw [c5]; decide) (by rw [c5]; decide) (by rw [c5]; rfl) (by decide) ?_
    refine sp_iload_n (pc := 65) dX8_ofRun_65 1 rfl ?_
    refine sp_iload (pc := 66) dX8_ofRun_66 0 rfl ?_
    refine sp_icmp_ne (pc := 68) (tgt := 75) dX8_ofRun_68 (by decide) (fun c6 => ?_) (fun c6 => ?_)
    · rw [if_neg c6] at hf
      refine sp_aload_n (pc := 75) dX8_ofRun_75 2 rfl ?_
      obtain ⟨x7, ex7, hf⟩ := ob hf
      refine sp_gR (pc := 76) fl_RX8_7 dX8_ofRun_76 ex7 ?_
      refine sp_iload_n (pc := 79) dX8_ofRun_79 1 rfl ?_
      refine sp_iconst (pc := 80) (v := 0) dX8_ofRun_80 (by decide) ?_
      obtain ⟨y8, ey8, hf⟩ := ob hf
      refine sp_callSi (pc := 81) (z := M_X8_of) (As := [.int y1, .int 0]) (bc2 := bc) (bs2 := bs) (m_X8_of (Q := _) (fun sz => ⟨y8, rfl, ?_⟩) ey8) rfl dX8_ofRun_81 rfl ck_X8_ofRun_50 (Nat.le_of_ble_eq_true rfl) rfl rfl rfl
      obtain ⟨x9, ex9, hf⟩ := ob hf
      refine sp_aI (pc := 84) dX8_ofRun_84 ex9 ?_
      obtain rfl := Option.some.inj hf
      exact sp_ireturn (pc := 85) dX8_ofRun_85 rfl rfl (hQ _)
    · rw [if_pos c6] at hf
      refine sp_iconst (pc := 71) (v := (-1)) dX8_ofRun_71 (by decide) ?_
      refine sp_goto (pc := 72) (tgt := 85) dX8_ofRun_72 (by decide) ?_
      obtain rfl := Option.some.inj hf
      exact sp_ireturn (pc := 85) dX8_ofRun_85 rfl rfl (hQ _)
  rw [if_neg c5] at hf
  by_cases c10 : v2 = 3
  · rw [if_pos c10] at hf
    refine sp_tableIn (pc := 16) (off := 70) (tgt := 86) dX8_ofRun_16 (by rw [c10]; decide) (by rw [c10]; decide) (by rw [c10]; rfl) (by decide) ?_
    refine sp_iload_n (pc := 86) dX8_ofRun_86 1 rfl ?_
    refine sp_iload (pc := 87) dX8_ofRun_87 0 rfl ?_
    refine sp_icmp_ne (pc := 89) (tgt := 96) dX8_ofRun_89 (by decide) (fun c11 => ?_) (fun c11 => ?_)
    · rw [if_neg c11] at hf
      refine sp_aload_n (pc := 96) dX8_ofRun_96 2 rfl ?_
      obtain ⟨x12, ex12, hf⟩ := ob hf
      refine sp_gR (pc := 97) fl_RX8_7 dX8_ofRun_97 ex12 ?_
      refine sp_iload (pc := 100) dX8_ofRun_100 0 rfl ?_
      refine sp_iconst (pc := 102) (v := 1) dX8_ofRun_102 (by decide) ?_
      refine sp_isub (pc := 103) dX8_ofRun_103 ?_
      refine sp_iconst (pc := 104) (v := 0) dX8_ofRun_104 (by decide) ?_
      obtain ⟨y13, ey13, hf⟩ := ob hf
      refine sp_callSi (pc := 105) (z := M_X8_of) (As := [.int ((y1 + y2) - 1), .int 0]) (bc2 := bc) (bs2 := bs) (m_X8_of (Q := _) (fun sz => ⟨y13, rfl, ?_⟩) ey13) rfl dX8_ofRun_105 rfl ck_X8_ofRun_50 (Nat.le_of_ble_eq_true rfl) rfl rfl rfl
      obtain ⟨x14, ex14, hf⟩ := ob hf
      refine sp_aI (pc := 108) dX8_ofRun_108 ex14 ?_
      obtain rfl := Option.some.inj hf
      exact sp_ireturn (pc := 109) dX8_ofRun_109 rfl rfl (hQ _)
    · rw [if_pos c11] at hf
      refine sp_iconst (pc := 92) (v := (-1)) dX8_ofRun_92 (by decide) ?_
      refine sp_goto (pc := 93) (tgt := 109) dX8_ofRun_93 (by decide) ?_
      obtain rfl := Option.some.inj hf
      exact sp_ireturn (pc := 109) dX8_ofRun_109 rfl rfl (hQ _)
  rw [if_neg c10] at hf
  refine sp_tableOut (pc := 16) (tgt := 110) dX8_ofRun_16 (tbl_out (fun i h1 h2 he => ?_)) (by decide) ?_
  · rcases (show i = 0 ∨ i = 1 ∨ i = 2 ∨ i = 3 by omega) with rfl | rfl | rfl | rfl
    · exact c3 (Int32.toInt_inj.mp (he.trans (by decide)))
    · exact c4 (Int32.toInt_inj.mp (he.trans (by decide)))
    · exact c5 (Int32.toInt_inj.mp (he.trans (by decide)))
    · exact c10 (Int32.toInt_inj.mp (he.trans (by decide)))
  refine sp_aload_n (pc := 110) dX8_ofRun_110 2 rfl ?_
  refine sp_iload_n (pc := 111) dX8_ofRun_111 1 rfl ?_
  refine sp_iload (pc := 112) dX8_ofRun_112 0 rfl ?_
  obtain ⟨y15, ey15, hf⟩ := ob hf
  obtain ⟨fsy15, hoy15⟩ := o_X8_keysOf ey15
  refine sp_callVi (pc := 114) (z := M_X8_keysOf) (As := [.int y1, .int (y1 + y2)]) (b := v0) (bc2 := bc) (bs2 := bs) (m_X8_keysOf (Q := _) (fun sz => ⟨y15, rfl, ?_⟩) ey15) rfl dX8_ofRun_114 hoy15 rfl rfl ck_X8_ofRun_206 (Nat.le_of_ble_eq_true rfl) rfl rfl rfl
  obtain rfl := Option.some.inj hf
  exact sp_ireturn (pc := 117) dX8_ofRun_117 rfl rfl (hQ _)

theorem o_X8_ofRun {h : HP} {v0 : Nat} {v1 : Int32} {v2 : Int32} {res : Int32} (hf : f_X8_ofRun h v0 v1 v2 = some res) : ∃ fs, h v0 = some (.inr (8, fs)) := by
  obtain ⟨u, eu, -⟩ := ob hf
  exact kO_spec eu

theorem m_X8_ofRun {l : Launch} {Q : PST} {h : HP} {v0 : Nat} {v1 : Int32} {v2 : Int32} {sz : Nat} {res : Int32} (hQ : ∀ sz', Q (.inl (some (.int res))) h sz') (hf : f_X8_ofRun h v0 v1 v2 = some res) : MM l M_X8_ofRun [.ref v0, .int v1, .int v2] h sz Q := by
  obtain ⟨u, eu, hf⟩ := ob hf
  exact MM_of wok_X8_ofRun (by decide +kernel) (Nat.le_of_ble_eq_true rfl) ((w_X8_ofRun_0 hQ hf))

theorem dX8_run_0 : decode (mB M_X8_run) 0 = .ok (.aload_n 0, 1) := by decide +kernel
theorem dX8_run_1 : decode (mB M_X8_run) 1 = .ok (.iload_n 1, 1) := by decide +kernel
theorem dX8_run_2 : decode (mB M_X8_run) 2 = .ok (.iconst (-1), 1) := by decide +kernel
theorem dX8_run_3 : decode (mB M_X8_run) 3 = .ok (.if_icmp .eq 15, 3) := by decide +kernel
theorem dX8_run_6 : decode (mB M_X8_run) 6 = .ok (.aload_n 0, 1) := by decide +kernel
theorem dX8_run_7 : decode (mB M_X8_run) 7 = .ok (.iload_n 1, 1) := by decide +kernel
theorem dX8_run_8 : decode (mB M_X8_run) 8 = .ok (.invokevirtual 118, 3) := by decide +kernel
theorem dX8_run_11 : decode (mB M_X8_run) 11 = .ok (.ifCond .ne 7, 3) := by decide +kernel
theorem dX8_run_14 : decode (mB M_X8_run) 14 = .ok (.iconst 1, 1) := by decide +kernel
theorem dX8_run_15 : decode (mB M_X8_run) 15 = .ok (.goto 17, 3) := by decide +kernel
theorem dX8_run_18 : decode (mB M_X8_run) 18 = .ok (.iload_n 2, 1) := by decide +kernel
theorem dX8_run_19 : decode (mB M_X8_run) 19 = .ok (.iconst 0, 1) := by decide +kernel
theorem dX8_run_20 : decode (mB M_X8_run) 20 = .ok (.iconst 4, 1) := by decide +kernel
theorem dX8_run_21 : decode (mB M_X8_run) 21 = .ok (.invokestatic 39, 3) := by decide +kernel
theorem dX8_run_24 : decode (mB M_X8_run) 24 = .ok (.ifCond .ne 7, 3) := by decide +kernel
theorem dX8_run_27 : decode (mB M_X8_run) 27 = .ok (.iconst 2, 1) := by decide +kernel
theorem dX8_run_28 : decode (mB M_X8_run) 28 = .ok (.goto 4, 3) := by decide +kernel
theorem dX8_run_31 : decode (mB M_X8_run) 31 = .ok (.iconst 0, 1) := by decide +kernel
theorem dX8_run_32 : decode (mB M_X8_run) 32 = .ok (.invokevirtual 124, 3) := by decide +kernel
theorem dX8_run_35 : decode (mB M_X8_run) 35 = .ok (.ifCond .eq 12, 3) := by decide +kernel
theorem dX8_run_38 : decode (mB M_X8_run) 38 = .ok (.aload_n 0, 1) := by decide +kernel
theorem dX8_run_39 : decode (mB M_X8_run) 39 = .ok (.iload_n 1, 1) := by decide +kernel
theorem dX8_run_40 : decode (mB M_X8_run) 40 = .ok (.iload_n 2, 1) := by decide +kernel
theorem dX8_run_41 : decode (mB M_X8_run) 41 = .ok (.invokevirtual 209, 3) := by decide +kernel
theorem dX8_run_44 : decode (mB M_X8_run) 44 = .ok (.goto 4, 3) := by decide +kernel
theorem dX8_run_47 : decode (mB M_X8_run) 47 = .ok (.iconst 0, 1) := by decide +kernel
theorem dX8_run_48 : decode (mB M_X8_run) 48 = .ok (.ireturn, 1) := by decide +kernel
def b_X8_run_32 (v0 : Nat) (v1 : Int32) (v2 : Int32) (h : HP) (s0 : Nat) (s1 : Int32) : Option (Int32 × HP) :=
  (f_X8_holds h s0 s1).bind fun y1 => if y1.1 = 0 then some (0, y1.2) else (f_X8_ofRun y1.2 v0 v1 v2).bind fun y3 => some (y3, y1.2)
def b_X8_run_18 (v0 : Nat) (v1 : Int32) (v2 : Int32) (h : HP) (s0 : Nat) : Option (Int32 × HP) :=
  (f_X8_in h v2 0 4).bind fun y1 => if y1 = 0 then b_X8_run_32 v0 v1 v2 h s0 2 else b_X8_run_32 v0 v1 v2 h s0 0
def b_X8_run_0 (v0 : Nat) (v1 : Int32) (v2 : Int32) (h : HP) : Option (Int32 × HP) :=
  if v1 = (-1) then b_X8_run_18 v0 v1 v2 h v0 else (f_X8_isRun h v0 v1).bind fun y2 => if y2 = 0 then b_X8_run_32 v0 v1 v2 h v0 1 else b_X8_run_18 v0 v1 v2 h v0
def f_X8_run (h : HP) (v0 : Nat) (v1 : Int32) (v2 : Int32) : Option (Int32 × HP) := (kO 8 h v0).bind fun _ => b_X8_run_0 v0 v1 v2 h
theorem w_X8_run_32 {l : Launch} {X : SCR} {Q : PST} {bc bs : Nat} {res : Int32 × HP} {h : HP} (hQ : ∀ sz', Q (.inl (some (.int res.1))) res.2 sz') {v0 : Nat} {v1 : Int32} {v2 : Int32} {s0 : Nat} {s1 : Int32} {sz : Nat} (hf : b_X8_run_32 v0 v1 v2 h s0 s1 = some res) : SP l X M_X8_run 32 [(0, .ref v0), (1, .int v1), (2, .int v2)] [.int s1, .ref s0] h sz bc bs Q := by
  rw [b_X8_run_32] at hf
  obtain ⟨y1, ey1, hf⟩ := ob hf
  obtain ⟨fsy1, hoy1⟩ := o_X8_holds ey1
  refine sp_callVi (pc := 32) (z := M_X8_holds) (As := [.int s1]) (b := s0) (bc2 := bc) (bs2 := bs) (m_X8_holds (Q := _) (fun sz => ⟨y1.1, rfl, ?_⟩) ey1) rfl dX8_run_32 hoy1 rfl rfl ck_X8_run_124 (Nat.le_of_ble_eq_true rfl) rfl rfl rfl
  refine sp_if_eq (pc := 35) (tgt := 47) dX8_run_35 (by decide) (fun c2 => ?_) (fun c2 => ?_)
  · rw [if_pos c2] at hf
    refine sp_iconst (pc := 47) (v := 0) dX8_run_47 (by decide) ?_
    obtain rfl := Option.some.inj hf
    exact sp_ireturn (pc := 48) dX8_run_48 rfl rfl (hQ _)
  · rw [if_neg c2] at hf
    refine sp_aload_n (pc := 38) dX8_run_38 0 rfl ?_
    refine sp_iload_n (pc := 39) dX8_run_39 1 rfl ?_
    refine sp_iload_n (pc := 40) dX8_run_40 2 rfl ?_
    obtain ⟨y3, ey3, hf⟩ := ob hf
    obtain ⟨fsy3, hoy3⟩ := o_X8_ofRun ey3
    refine sp_callVi (pc := 41) (z := M_X8_ofRun) (As := [.int v1, .int v2]) (b := v0) (bc2 := bc) (bs2 := bs) (m_X8_ofRun (Q := _) (fun sz => ⟨y3, rfl, ?_⟩) ey3) rfl dX8_run_41 hoy3 rfl rfl ck_X8_run_209 (Nat.le_of_ble_eq_true rfl) rfl rfl rfl
    refine sp_goto (pc := 44) (tgt := 48) dX8_run_44 (by decide) ?_
    obtain rfl := Option.some.inj hf
    exact sp_ireturn (pc := 48) dX8_run_48 rfl rfl (hQ _)

theorem w_X8_run_18 {l : Launch} {X : SCR} {Q : PST} {bc bs : Nat} {res : Int32 × HP} {h : HP} (hQ : ∀ sz', Q (.inl (some (.int res.1))) res.2 sz') {v0 : Nat} {v1 : Int32} {v2 : Int32} {s0 : Nat} {sz : Nat} (hf : b_X8_run_18 v0 v1 v2 h s0 = some res) : SP l X M_X8_run 18 [(0, .ref v0), (1, .int v1), (2, .int v2)] [.ref s0] h sz bc bs Q := by
  rw [b_X8_run_18] at hf
  refine sp_iload_n (pc := 18) dX8_run_18 2 rfl ?_
  refine sp_iconst (pc := 19) (v := 0) dX8_run_19 (by decide) ?_
  refine sp_iconst (pc := 20) (v := 4) dX8_run_20 (by decide) ?_
  obtain ⟨y1, ey1, hf⟩ := ob hf
  refine sp_callSi (pc := 21) (z := M_X8_in) (As := [.int v2, .int 0, .int 4]) (bc2 := bc) (bs2 := bs) (m_X8_in (Q := _) (fun sz => ⟨y1, rfl, ?_⟩) ey1) rfl dX8_run_21 rfl ck_X8_run_39 (Nat.le_of_ble_eq_true rfl) rfl rfl rfl
  refine sp_if_ne (pc := 24) (tgt := 31) dX8_run_24 (by decide) (fun c2 => ?_) (fun c2 => ?_)
  · rw [if_neg c2] at hf
    refine sp_iconst (pc := 31) (v := 0) dX8_run_31 (by decide) ?_
    exact (w_X8_run_32 hQ hf)
  · rw [if_pos c2] at hf
    refine sp_iconst (pc := 27) (v := 2) dX8_run_27 (by decide) ?_
    refine sp_goto (pc := 28) (tgt := 32) dX8_run_28 (by decide) ?_
    exact (w_X8_run_32 hQ hf)

theorem w_X8_run_0 {l : Launch} {X : SCR} {Q : PST} {bc bs : Nat} {res : Int32 × HP} {h : HP} (hQ : ∀ sz', Q (.inl (some (.int res.1))) res.2 sz') {v0 : Nat} {v1 : Int32} {v2 : Int32} {sz : Nat} (hf : b_X8_run_0 v0 v1 v2 h  = some res) : SP l X M_X8_run 0 [(0, .ref v0), (1, .int v1), (2, .int v2)] [] h sz bc bs Q := by
  rw [b_X8_run_0] at hf
  refine sp_aload_n (pc := 0) dX8_run_0 0 rfl ?_
  refine sp_iload_n (pc := 1) dX8_run_1 1 rfl ?_
  refine sp_iconst (pc := 2) (v := (-1)) dX8_run_2 (by decide) ?_
  refine sp_icmp_eq (pc := 3) (tgt := 18) dX8_run_3 (by decide) (fun c1 => ?_) (fun c1 => ?_)
  · rw [if_pos c1] at hf
    exact (w_X8_run_18 hQ hf)
  · rw [if_neg c1] at hf
    refine sp_aload_n (pc := 6) dX8_run_6 0 rfl ?_
    refine sp_iload_n (pc := 7) dX8_run_7 1 rfl ?_
    obtain ⟨y2, ey2, hf⟩ := ob hf
    obtain ⟨fsy2, hoy2⟩ := o_X8_isRun ey2
    refine sp_callVi (pc := 8) (z := M_X8_isRun) (As := [.int v1]) (b := v0) (bc2 := bc) (bs2 := bs) (m_X8_isRun (Q := _) (fun sz => ⟨y2, rfl, ?_⟩) ey2) rfl dX8_run_8 hoy2 rfl rfl ck_X8_run_118 (Nat.le_of_ble_eq_true rfl) rfl rfl rfl
    refine sp_if_ne (pc := 11) (tgt := 18) dX8_run_11 (by decide) (fun c3 => ?_) (fun c3 => ?_)
    · rw [if_neg c3] at hf
      exact (w_X8_run_18 hQ hf)
    · rw [if_pos c3] at hf
      refine sp_iconst (pc := 14) (v := 1) dX8_run_14 (by decide) ?_
      refine sp_goto (pc := 15) (tgt := 32) dX8_run_15 (by decide) ?_
      exact (w_X8_run_32 hQ hf)

theorem o_X8_run {h : HP} {v0 : Nat} {v1 : Int32} {v2 : Int32} {res : Int32 × HP} (hf : f_X8_run h v0 v1 v2 = some res) : ∃ fs, h v0 = some (.inr (8, fs)) := by
  obtain ⟨u, eu, -⟩ := ob hf
  exact kO_spec eu

theorem m_X8_run {l : Launch} {Q : PST} {h : HP} {v0 : Nat} {v1 : Int32} {v2 : Int32} {sz : Nat} {res : Int32 × HP} (hQ : ∀ sz', Q (.inl (some (.int res.1))) res.2 sz') (hf : f_X8_run h v0 v1 v2 = some res) : MM l M_X8_run [.ref v0, .int v1, .int v2] h sz Q := by
  obtain ⟨u, eu, hf⟩ := ob hf
  exact MM_of wok_X8_run (by decide +kernel) (Nat.le_of_ble_eq_true rfl) ((w_X8_run_0 hQ hf))

theorem dX8_write_0 : decode (mB M_X8_write) 0 = .ok (.iload_n 1, 1) := by decide +kernel
theorem dX8_write_1 : decode (mB M_X8_write) 1 = .ok (.iconst (-1), 1) := by decide +kernel
theorem dX8_write_2 : decode (mB M_X8_write) 2 = .ok (.if_icmp .eq 15, 3) := by decide +kernel
theorem dX8_write_5 : decode (mB M_X8_write) 5 = .ok (.aload_n 0, 1) := by decide +kernel
theorem dX8_write_6 : decode (mB M_X8_write) 6 = .ok (.iload_n 1, 1) := by decide +kernel
theorem dX8_write_7 : decode (mB M_X8_write) 7 = .ok (.invokevirtual 118, 3) := by decide +kernel
theorem dX8_write_10 : decode (mB M_X8_write) 10 = .ok (.ifCond .ne 7, 3) := by decide +kernel
theorem dX8_write_13 : decode (mB M_X8_write) 13 = .ok (.iconst 1, 1) := by decide +kernel
theorem dX8_write_14 : decode (mB M_X8_write) 14 = .ok (.goto 21, 3) := by decide +kernel
theorem dX8_write_17 : decode (mB M_X8_write) 17 = .ok (.iload_n 2, 1) := by decide +kernel
theorem dX8_write_18 : decode (mB M_X8_write) 18 = .ok (.ifCond .lt 12, 3) := by decide +kernel
theorem dX8_write_21 : decode (mB M_X8_write) 21 = .ok (.iload_n 3, 1) := by decide +kernel
theorem dX8_write_22 : decode (mB M_X8_write) 22 = .ok (.iconst 0, 1) := by decide +kernel
theorem dX8_write_23 : decode (mB M_X8_write) 23 = .ok (.iconst 3, 1) := by decide +kernel
theorem dX8_write_24 : decode (mB M_X8_write) 24 = .ok (.invokestatic 39, 3) := by decide +kernel
theorem dX8_write_27 : decode (mB M_X8_write) 27 = .ok (.ifCond .ne 7, 3) := by decide +kernel
theorem dX8_write_30 : decode (mB M_X8_write) 30 = .ok (.iconst 2, 1) := by decide +kernel
theorem dX8_write_31 : decode (mB M_X8_write) 31 = .ok (.goto 4, 3) := by decide +kernel
theorem dX8_write_34 : decode (mB M_X8_write) 34 = .ok (.iconst 0, 1) := by decide +kernel
theorem dX8_write_35 : decode (mB M_X8_write) 35 = .ok (.istore 4, 2) := by decide +kernel
theorem dX8_write_37 : decode (mB M_X8_write) 37 = .ok (.aload_n 0, 1) := by decide +kernel
theorem dX8_write_38 : decode (mB M_X8_write) 38 = .ok (.iload 4, 2) := by decide +kernel
theorem dX8_write_40 : decode (mB M_X8_write) 40 = .ok (.invokevirtual 124, 3) := by decide +kernel
theorem dX8_write_43 : decode (mB M_X8_write) 43 = .ok (.ifCond .ne 7, 3) := by decide +kernel
theorem dX8_write_46 : decode (mB M_X8_write) 46 = .ok (.iconst 0, 1) := by decide +kernel
theorem dX8_write_47 : decode (mB M_X8_write) 47 = .ok (.goto 32, 3) := by decide +kernel
theorem dX8_write_50 : decode (mB M_X8_write) 50 = .ok (.iload_n 2, 1) := by decide +kernel
theorem dX8_write_51 : decode (mB M_X8_write) 51 = .ok (.aload_n 0, 1) := by decide +kernel
theorem dX8_write_52 : decode (mB M_X8_write) 52 = .ok (.iload_n 1, 1) := by decide +kernel
theorem dX8_write_53 : decode (mB M_X8_write) 53 = .ok (.invokevirtual 203, 3) := by decide +kernel
theorem dX8_write_56 : decode (mB M_X8_write) 56 = .ok (.if_icmp .ge 22, 3) := by decide +kernel
theorem dX8_write_59 : decode (mB M_X8_write) 59 = .ok (.aload_n 0, 1) := by decide +kernel
theorem dX8_write_60 : decode (mB M_X8_write) 60 = .ok (.getfield 7, 3) := by decide +kernel
theorem dX8_write_63 : decode (mB M_X8_write) 63 = .ok (.aload_n 0, 1) := by decide +kernel
theorem dX8_write_64 : decode (mB M_X8_write) 64 = .ok (.iload_n 1, 1) := by decide +kernel
theorem dX8_write_65 : decode (mB M_X8_write) 65 = .ok (.invokevirtual 46, 3) := by decide +kernel
theorem dX8_write_68 : decode (mB M_X8_write) 68 = .ok (.iload_n 2, 1) := by decide +kernel
theorem dX8_write_69 : decode (mB M_X8_write) 69 = .ok (.iadd, 1) := by decide +kernel
theorem dX8_write_70 : decode (mB M_X8_write) 70 = .ok (.iload_n 3, 1) := by decide +kernel
theorem dX8_write_71 : decode (mB M_X8_write) 71 = .ok (.invokestatic 50, 3) := by decide +kernel
theorem dX8_write_74 : decode (mB M_X8_write) 74 = .ok (.iaload, 1) := by decide +kernel
theorem dX8_write_75 : decode (mB M_X8_write) 75 = .ok (.goto 4, 3) := by decide +kernel
theorem dX8_write_78 : decode (mB M_X8_write) 78 = .ok (.iconst (-1), 1) := by decide +kernel
theorem dX8_write_79 : decode (mB M_X8_write) 79 = .ok (.ireturn, 1) := by decide +kernel
def b_X8_write_35 (v0 : Nat) (v1 : Int32) (v2 : Int32) (v3 : Int32) (h : HP) (s0 : Int32) : Option (Int32 × HP) :=
  (f_X8_holds h v0 s0).bind fun y1 => if y1.1 = 0 then some (0, y1.2) else (f_X8_manyIn y1.2 v0 v1).bind fun y3 => if y3 ≤ v2 then some ((-1), y1.2) else (gR 8 1 y1.2 v0).bind fun x5 => (f_X8_begin y1.2 v0 v1).bind fun y6 => (f_X8_of y1.2 (y6 + v2) v3).bind fun y7 => (aI y1.2 x5 y7).bind fun x8 => some (x8, y1.2)
def b_X8_write_17 (v0 : Nat) (v1 : Int32) (v2 : Int32) (v3 : Int32) (h : HP) : Option (Int32 × HP) :=
  if v2 < 0 then b_X8_write_35 v0 v1 v2 v3 h 2 else (f_X8_in h v3 0 3).bind fun y2 => if y2 = 0 then b_X8_write_35 v0 v1 v2 v3 h 2 else b_X8_write_35 v0 v1 v2 v3 h 0
def b_X8_write_0 (v0 : Nat) (v1 : Int32) (v2 : Int32) (v3 : Int32) (h : HP) : Option (Int32 × HP) :=
  if v1 = (-1) then b_X8_write_17 v0 v1 v2 v3 h else (f_X8_isRun h v0 v1).bind fun y2 => if y2 = 0 then b_X8_write_35 v0 v1 v2 v3 h 1 else b_X8_write_17 v0 v1 v2 v3 h
def f_X8_write (h : HP) (v0 : Nat) (v1 : Int32) (v2 : Int32) (v3 : Int32) : Option (Int32 × HP) := (kO 8 h v0).bind fun _ => b_X8_write_0 v0 v1 v2 v3 h
theorem w_X8_write_35 {l : Launch} {X : SCR} {Q : PST} {bc bs : Nat} {res : Int32 × HP} {h : HP} (hQ : ∀ sz', Q (.inl (some (.int res.1))) res.2 sz') {v0 : Nat} {v1 : Int32} {v2 : Int32} {v3 : Int32} {s0 : Int32} {sz : Nat} (hf : b_X8_write_35 v0 v1 v2 v3 h s0 = some res) : SP l X M_X8_write 35 [(0, .ref v0), (1, .int v1), (2, .int v2), (3, .int v3)] [.int s0] h sz bc bs Q := by
  rw [b_X8_write_35] at hf
  refine sp_istore (pc := 35) (lv' := [(4, .int s0), (0, .ref v0), (1, .int v1), (2, .int v2), (3, .int v3)]) dX8_write_35 (by decide) rfl ?_
  refine sp_aload_n (pc := 37) dX8_write_37 1 rfl ?_
  refine sp_iload (pc := 38) dX8_write_38 0 rfl ?_
  obtain ⟨y1, ey1, hf⟩ := ob hf
  obtain ⟨fsy1, hoy1⟩ := o_X8_holds ey1
  refine sp_callVi (pc := 40) (z := M_X8_holds) (As := [.int s0]) (b := v0) (bc2 := bc) (bs2 := bs) (m_X8_holds (Q := _) (fun sz => ⟨y1.1, rfl, ?_⟩) ey1) rfl dX8_write_40 hoy1 rfl rfl ck_X8_write_124 (Nat.le_of_ble_eq_true rfl) rfl rfl rfl
  refine sp_if_ne (pc := 43) (tgt := 50) dX8_write_43 (by decide) (fun c2 => ?_) (fun c2 => ?_)
  · rw [if_neg c2] at hf
    refine sp_iload_n (pc := 50) dX8_write_50 3 rfl ?_
    refine sp_aload_n (pc := 51) dX8_write_51 1 rfl ?_
    refine sp_iload_n (pc := 52) dX8_write_52 2 rfl ?_
    obtain ⟨y3, ey3, hf⟩ := ob hf
    obtain ⟨fsy3, hoy3⟩ := o_X8_manyIn ey3
    refine sp_callVi (pc := 53) (z := M_X8_manyIn) (As := [.int v1]) (b := v0) (bc2 := bc) (bs2 := bs) (m_X8_manyIn (Q := _) (fun sz => ⟨y3, rfl, ?_⟩) ey3) rfl dX8_write_53 hoy3 rfl rfl ck_X8_write_203 (Nat.le_of_ble_eq_true rfl) rfl rfl rfl
    refine sp_icmp_ge (pc := 56) (tgt := 78) dX8_write_56 (by decide) (fun c4 => ?_) (fun c4 => ?_)
    · rw [if_pos c4] at hf
      refine sp_iconst (pc := 78) (v := (-1)) dX8_write_78 (by decide) ?_
      obtain rfl := Option.some.inj hf
      exact sp_ireturn (pc := 79) dX8_write_79 rfl rfl (hQ _)
    · rw [if_neg c4] at hf
      refine sp_aload_n (pc := 59) dX8_write_59 1 rfl ?_
      obtain ⟨x5, ex5, hf⟩ := ob hf
      refine sp_gR (pc := 60) fl_RX8_7 dX8_write_60 ex5 ?_
      refine sp_aload_n (pc := 63) dX8_write_63 1 rfl ?_
      refine sp_iload_n (pc := 64) dX8_write_64 2 rfl ?_
      obtain ⟨y6, ey6, hf⟩ := ob hf
      obtain ⟨fsy6, hoy6⟩ := o_X8_begin ey6
      refine sp_callVi (pc := 65) (z := M_X8_begin) (As := [.int v1]) (b := v0) (bc2 := bc) (bs2 := bs) (m_X8_begin (Q := _) (fun sz => ⟨y6, rfl, ?_⟩) ey6) rfl dX8_write_65 hoy6 rfl rfl ck_X8_write_46 (Nat.le_of_ble_eq_true rfl) rfl rfl rfl
      refine sp_iload_n (pc := 68) dX8_write_68 3 rfl ?_
      refine sp_iadd (pc := 69) dX8_write_69 ?_
      refine sp_iload_n (pc := 70) dX8_write_70 4 rfl ?_
      obtain ⟨y7, ey7, hf⟩ := ob hf
      refine sp_callSi (pc := 71) (z := M_X8_of) (As := [.int (y6 + v2), .int v3]) (bc2 := bc) (bs2 := bs) (m_X8_of (Q := _) (fun sz => ⟨y7, rfl, ?_⟩) ey7) rfl dX8_write_71 rfl ck_X8_write_50 (Nat.le_of_ble_eq_true rfl) rfl rfl rfl
      obtain ⟨x8, ex8, hf⟩ := ob hf
      refine sp_aI (pc := 74) dX8_write_74 ex8 ?_
      refine sp_goto (pc := 75) (tgt := 79) dX8_write_75 (by decide) ?_
      obtain rfl := Option.some.inj hf
      exact sp_ireturn (pc := 79) dX8_write_79 rfl rfl (hQ _)
  · rw [if_pos c2] at hf
    refine sp_iconst (pc := 46) (v := 0) dX8_write_46 (by decide) ?_
    refine sp_goto (pc := 47) (tgt := 79) dX8_write_47 (by decide) ?_
    obtain rfl := Option.some.inj hf
    exact sp_ireturn (pc := 79) dX8_write_79 rfl rfl (hQ _)

theorem w_X8_write_17 {l : Launch} {X : SCR} {Q : PST} {bc bs : Nat} {res : Int32 × HP} {h : HP} (hQ : ∀ sz', Q (.inl (some (.int res.1))) res.2 sz') {v0 : Nat} {v1 : Int32} {v2 : Int32} {v3 : Int32} {sz : Nat} (hf : b_X8_write_17 v0 v1 v2 v3 h  = some res) : SP l X M_X8_write 17 [(0, .ref v0), (1, .int v1), (2, .int v2), (3, .int v3)] [] h sz bc bs Q := by
  rw [b_X8_write_17] at hf
  refine sp_iload_n (pc := 17) dX8_write_17 2 rfl ?_
  refine sp_if_lt (pc := 18) (tgt := 30) dX8_write_18 (by decide) (fun c1 => ?_) (fun c1 => ?_)
  · rw [if_pos c1] at hf
    refine sp_iconst (pc := 30) (v := 2) dX8_write_30 (by decide) ?_
    refine sp_goto (pc := 31) (tgt := 35) dX8_write_31 (by decide) ?_
    exact (w_X8_write_35 hQ hf)
  · rw [if_neg c1] at hf
    refine sp_iload_n (pc := 21) dX8_write_21 3 rfl ?_
    refine sp_iconst (pc := 22) (v := 0) dX8_write_22 (by decide) ?_
    refine sp_iconst (pc := 23) (v := 3) dX8_write_23 (by decide) ?_
    obtain ⟨y2, ey2, hf⟩ := ob hf
    refine sp_callSi (pc := 24) (z := M_X8_in) (As := [.int v3, .int 0, .int 3]) (bc2 := bc) (bs2 := bs) (m_X8_in (Q := _) (fun sz => ⟨y2, rfl, ?_⟩) ey2) rfl dX8_write_24 rfl ck_X8_write_39 (Nat.le_of_ble_eq_true rfl) rfl rfl rfl
    refine sp_if_ne (pc := 27) (tgt := 34) dX8_write_27 (by decide) (fun c3 => ?_) (fun c3 => ?_)
    · rw [if_neg c3] at hf
      refine sp_iconst (pc := 34) (v := 0) dX8_write_34 (by decide) ?_
      exact (w_X8_write_35 hQ hf)
    · rw [if_pos c3] at hf
      refine sp_iconst (pc := 30) (v := 2) dX8_write_30 (by decide) ?_
      refine sp_goto (pc := 31) (tgt := 35) dX8_write_31 (by decide) ?_
      exact (w_X8_write_35 hQ hf)

theorem w_X8_write_0 {l : Launch} {X : SCR} {Q : PST} {bc bs : Nat} {res : Int32 × HP} {h : HP} (hQ : ∀ sz', Q (.inl (some (.int res.1))) res.2 sz') {v0 : Nat} {v1 : Int32} {v2 : Int32} {v3 : Int32} {sz : Nat} (hf : b_X8_write_0 v0 v1 v2 v3 h  = some res) : SP l X M_X8_write 0 [(0, .ref v0), (1, .int v1), (2, .int v2), (3, .int v3)] [] h sz bc bs Q := by
  rw [b_X8_write_0] at hf
  refine sp_iload_n (pc := 0) dX8_write_0 1 rfl ?_
  refine sp_iconst (pc := 1) (v := (-1)) dX8_write_1 (by decide) ?_
  refine sp_icmp_eq (pc := 2) (tgt := 17) dX8_write_2 (by decide) (fun c1 => ?_) (fun c1 => ?_)
  · rw [if_pos c1] at hf
    exact (w_X8_write_17 hQ hf)
  · rw [if_neg c1] at hf
    refine sp_aload_n (pc := 5) dX8_write_5 0 rfl ?_
    refine sp_iload_n (pc := 6) dX8_write_6 1 rfl ?_
    obtain ⟨y2, ey2, hf⟩ := ob hf
    obtain ⟨fsy2, hoy2⟩ := o_X8_isRun ey2
    refine sp_callVi (pc := 7) (z := M_X8_isRun) (As := [.int v1]) (b := v0) (bc2 := bc) (bs2 := bs) (m_X8_isRun (Q := _) (fun sz => ⟨y2, rfl, ?_⟩) ey2) rfl dX8_write_7 hoy2 rfl rfl ck_X8_write_118 (Nat.le_of_ble_eq_true rfl) rfl rfl rfl
    refine sp_if_ne (pc := 10) (tgt := 17) dX8_write_10 (by decide) (fun c3 => ?_) (fun c3 => ?_)
    · rw [if_neg c3] at hf
      exact (w_X8_write_17 hQ hf)
    · rw [if_pos c3] at hf
      refine sp_iconst (pc := 13) (v := 1) dX8_write_13 (by decide) ?_
      refine sp_goto (pc := 14) (tgt := 35) dX8_write_14 (by decide) ?_
      exact (w_X8_write_35 hQ hf)

theorem o_X8_write {h : HP} {v0 : Nat} {v1 : Int32} {v2 : Int32} {v3 : Int32} {res : Int32 × HP} (hf : f_X8_write h v0 v1 v2 v3 = some res) : ∃ fs, h v0 = some (.inr (8, fs)) := by
  obtain ⟨u, eu, -⟩ := ob hf
  exact kO_spec eu

theorem m_X8_write {l : Launch} {Q : PST} {h : HP} {v0 : Nat} {v1 : Int32} {v2 : Int32} {v3 : Int32} {sz : Nat} {res : Int32 × HP} (hQ : ∀ sz', Q (.inl (some (.int res.1))) res.2 sz') (hf : f_X8_write h v0 v1 v2 v3 = some res) : MM l M_X8_write [.ref v0, .int v1, .int v2, .int v3] h sz Q := by
  obtain ⟨u, eu, hf⟩ := ob hf
  exact MM_of wok_X8_write (by decide +kernel) (Nat.le_of_ble_eq_true rfl) ((w_X8_write_0 hQ hf))

theorem dX8_eye_0 : decode (mB M_X8_eye) 0 = .ok (.aload_n 0, 1) := by decide +kernel
theorem dX8_eye_1 : decode (mB M_X8_eye) 1 = .ok (.aload_n 0, 1) := by decide +kernel
theorem dX8_eye_2 : decode (mB M_X8_eye) 2 = .ok (.iload_n 1, 1) := by decide +kernel
theorem dX8_eye_3 : decode (mB M_X8_eye) 3 = .ok (.invokevirtual 161, 3) := by decide +kernel
theorem dX8_eye_6 : decode (mB M_X8_eye) 6 = .ok (.ifCond .eq 7, 3) := by decide +kernel
theorem dX8_eye_9 : decode (mB M_X8_eye) 9 = .ok (.iconst 0, 1) := by decide +kernel
theorem dX8_eye_10 : decode (mB M_X8_eye) 10 = .ok (.goto 4, 3) := by decide +kernel
theorem dX8_eye_13 : decode (mB M_X8_eye) 13 = .ok (.iconst 1, 1) := by decide +kernel
theorem dX8_eye_14 : decode (mB M_X8_eye) 14 = .ok (.invokevirtual 124, 3) := by decide +kernel
theorem dX8_eye_17 : decode (mB M_X8_eye) 17 = .ok (.ifCond .eq 15, 3) := by decide +kernel
theorem dX8_eye_20 : decode (mB M_X8_eye) 20 = .ok (.aload_n 0, 1) := by decide +kernel
theorem dX8_eye_21 : decode (mB M_X8_eye) 21 = .ok (.getfield 7, 3) := by decide +kernel
theorem dX8_eye_24 : decode (mB M_X8_eye) 24 = .ok (.bipush 8, 2) := by decide +kernel
theorem dX8_eye_26 : decode (mB M_X8_eye) 26 = .ok (.iload_n 1, 1) := by decide +kernel
theorem dX8_eye_27 : decode (mB M_X8_eye) 27 = .ok (.iadd, 1) := by decide +kernel
theorem dX8_eye_28 : decode (mB M_X8_eye) 28 = .ok (.iaload, 1) := by decide +kernel
theorem dX8_eye_29 : decode (mB M_X8_eye) 29 = .ok (.goto 4, 3) := by decide +kernel
theorem dX8_eye_32 : decode (mB M_X8_eye) 32 = .ok (.iconst 0, 1) := by decide +kernel
theorem dX8_eye_33 : decode (mB M_X8_eye) 33 = .ok (.ireturn, 1) := by decide +kernel
def b_X8_eye_14 (v0 : Nat) (v1 : Int32) (h : HP) (s0 : Nat) (s1 : Int32) : Option (Int32 × HP) :=
  (f_X8_holds h s0 s1).bind fun y1 => if y1.1 = 0 then some (0, y1.2) else (gR 8 1 y1.2 v0).bind fun x3 => (aI y1.2 x3 (8 + v1)).bind fun x4 => some (x4, y1.2)
def b_X8_eye_0 (v0 : Nat) (v1 : Int32) (h : HP) : Option (Int32 × HP) :=
  (f_X8_isEye h v0 v1).bind fun y1 => if y1 = 0 then b_X8_eye_14 v0 v1 h v0 1 else b_X8_eye_14 v0 v1 h v0 0
def f_X8_eye (h : HP) (v0 : Nat) (v1 : Int32) : Option (Int32 × HP) := (kO 8 h v0).bind fun _ => b_X8_eye_0 v0 v1 h
theorem w_X8_eye_14 {l : Launch} {X : SCR} {Q : PST} {bc bs : Nat} {res : Int32 × HP} {h : HP} (hQ : ∀ sz', Q (.inl (some (.int res.1))) res.2 sz') {v0 : Nat} {v1 : Int32} {s0 : Nat} {s1 : Int32} {sz : Nat} (hf : b_X8_eye_14 v0 v1 h s0 s1 = some res) : SP l X M_X8_eye 14 [(0, .ref v0), (1, .int v1)] [.int s1, .ref s0] h sz bc bs Q := by
  rw [b_X8_eye_14] at hf
  obtain ⟨y1, ey1, hf⟩ := ob hf
  obtain ⟨fsy1, hoy1⟩ := o_X8_holds ey1
  refine sp_callVi (pc := 14) (z := M_X8_holds) (As := [.int s1]) (b := s0) (bc2 := bc) (bs2 := bs) (m_X8_holds (Q := _) (fun sz => ⟨y1.1, rfl, ?_⟩) ey1) rfl dX8_eye_14 hoy1 rfl rfl ck_X8_eye_124 (Nat.le_of_ble_eq_true rfl) rfl rfl rfl
  refine sp_if_eq (pc := 17) (tgt := 32) dX8_eye_17 (by decide) (fun c2 => ?_) (fun c2 => ?_)
  · rw [if_pos c2] at hf
    refine sp_iconst (pc := 32) (v := 0) dX8_eye_32 (by decide) ?_
    obtain rfl := Option.some.inj hf
    exact sp_ireturn (pc := 33) dX8_eye_33 rfl rfl (hQ _)
  · rw [if_neg c2] at hf
    refine sp_aload_n (pc := 20) dX8_eye_20 0 rfl ?_
    obtain ⟨x3, ex3, hf⟩ := ob hf
    refine sp_gR (pc := 21) fl_RX8_7 dX8_eye_21 ex3 ?_
    refine sp_bipush (pc := 24) (v := 8) dX8_eye_24 (by decide) ?_
    refine sp_iload_n (pc := 26) dX8_eye_26 1 rfl ?_
    refine sp_iadd (pc := 27) dX8_eye_27 ?_
    obtain ⟨x4, ex4, hf⟩ := ob hf
    refine sp_aI (pc := 28) dX8_eye_28 ex4 ?_
    refine sp_goto (pc := 29) (tgt := 33) dX8_eye_29 (by decide) ?_
    obtain rfl := Option.some.inj hf
    exact sp_ireturn (pc := 33) dX8_eye_33 rfl rfl (hQ _)

theorem w_X8_eye_0 {l : Launch} {X : SCR} {Q : PST} {bc bs : Nat} {res : Int32 × HP} {h : HP} (hQ : ∀ sz', Q (.inl (some (.int res.1))) res.2 sz') {v0 : Nat} {v1 : Int32} {sz : Nat} (hf : b_X8_eye_0 v0 v1 h  = some res) : SP l X M_X8_eye 0 [(0, .ref v0), (1, .int v1)] [] h sz bc bs Q := by
  rw [b_X8_eye_0] at hf
  refine sp_aload_n (pc := 0) dX8_eye_0 0 rfl ?_
  refine sp_aload_n (pc := 1) dX8_eye_1 0 rfl ?_
  refine sp_iload_n (pc := 2) dX8_eye_2 1 rfl ?_
  obtain ⟨y1, ey1, hf⟩ := ob hf
  obtain ⟨fsy1, hoy1⟩ := o_X8_isEye ey1
  refine sp_callVi (pc := 3) (z := M_X8_isEye) (As := [.int v1]) (b := v0) (bc2 := bc) (bs2 := bs) (m_X8_isEye (Q := _) (fun sz => ⟨y1, rfl, ?_⟩) ey1) rfl dX8_eye_3 hoy1 rfl rfl ck_X8_eye_161 (Nat.le_of_ble_eq_true rfl) rfl rfl rfl
  refine sp_if_eq (pc := 6) (tgt := 13) dX8_eye_6 (by decide) (fun c2 => ?_) (fun c2 => ?_)
  · rw [if_pos c2] at hf
    refine sp_iconst (pc := 13) (v := 1) dX8_eye_13 (by decide) ?_
    exact (w_X8_eye_14 hQ hf)
  · rw [if_neg c2] at hf
    refine sp_iconst (pc := 9) (v := 0) dX8_eye_9 (by decide) ?_
    refine sp_goto (pc := 10) (tgt := 14) dX8_eye_10 (by decide) ?_
    exact (w_X8_eye_14 hQ hf)

theorem o_X8_eye {h : HP} {v0 : Nat} {v1 : Int32} {res : Int32 × HP} (hf : f_X8_eye h v0 v1 = some res) : ∃ fs, h v0 = some (.inr (8, fs)) := by
  obtain ⟨u, eu, -⟩ := ob hf
  exact kO_spec eu

theorem m_X8_eye {l : Launch} {Q : PST} {h : HP} {v0 : Nat} {v1 : Int32} {sz : Nat} {res : Int32 × HP} (hQ : ∀ sz', Q (.inl (some (.int res.1))) res.2 sz') (hf : f_X8_eye h v0 v1 = some res) : MM l M_X8_eye [.ref v0, .int v1] h sz Q := by
  obtain ⟨u, eu, hf⟩ := ob hf
  exact MM_of wok_X8_eye (by decide +kernel) (Nat.le_of_ble_eq_true rfl) ((w_X8_eye_0 hQ hf))

theorem dX8_put_0 : decode (mB M_X8_put) 0 = .ok (.aload_n 0, 1) := by decide +kernel
theorem dX8_put_1 : decode (mB M_X8_put) 1 = .ok (.aload_n 0, 1) := by decide +kernel
theorem dX8_put_2 : decode (mB M_X8_put) 2 = .ok (.iload_n 1, 1) := by decide +kernel
theorem dX8_put_3 : decode (mB M_X8_put) 3 = .ok (.iload_n 2, 1) := by decide +kernel
theorem dX8_put_4 : decode (mB M_X8_put) 4 = .ok (.invokevirtual 149, 3) := by decide +kernel
theorem dX8_put_7 : decode (mB M_X8_put) 7 = .ok (.invokevirtual 124, 3) := by decide +kernel
theorem dX8_put_10 : decode (mB M_X8_put) 10 = .ok (.ifCond .ne 5, 3) := by decide +kernel
theorem dX8_put_13 : decode (mB M_X8_put) 13 = .ok (.iconst 0, 1) := by decide +kernel
theorem dX8_put_14 : decode (mB M_X8_put) 14 = .ok (.ireturn, 1) := by decide +kernel
theorem dX8_put_15 : decode (mB M_X8_put) 15 = .ok (.aload_n 0, 1) := by decide +kernel
theorem dX8_put_16 : decode (mB M_X8_put) 16 = .ok (.invokevirtual 212, 3) := by decide +kernel
theorem dX8_put_19 : decode (mB M_X8_put) 19 = .ok (.aload_n 0, 1) := by decide +kernel
theorem dX8_put_20 : decode (mB M_X8_put) 20 = .ok (.iload_n 1, 1) := by decide +kernel
theorem dX8_put_21 : decode (mB M_X8_put) 21 = .ok (.iload_n 1, 1) := by decide +kernel
theorem dX8_put_22 : decode (mB M_X8_put) 22 = .ok (.iload_n 2, 1) := by decide +kernel
theorem dX8_put_23 : decode (mB M_X8_put) 23 = .ok (.invokevirtual 104, 3) := by decide +kernel
theorem dX8_put_26 : decode (mB M_X8_put) 26 = .ok (.ireturn, 1) := by decide +kernel
def b_X8_put_0 (v0 : Nat) (v1 : Int32) (v2 : Int32) (h : HP) : Option (Int32 × HP) :=
  (f_X8_putFault h v0 v1 v2).bind fun y1 => (f_X8_holds h v0 y1).bind fun y2 => if y2.1 = 0 then some (0, y2.2) else (f_X8_remember y2.2 v0).bind fun y4 => (f_X8_writes y4 v0 v1 v1 v2).bind fun y5 => some (y5.1, y5.2)
def f_X8_put (h : HP) (v0 : Nat) (v1 : Int32) (v2 : Int32) : Option (Int32 × HP) := (kO 8 h v0).bind fun _ => b_X8_put_0 v0 v1 v2 h
theorem w_X8_put_0 {l : Launch} {X : SCR} {Q : PST} {bc bs : Nat} {res : Int32 × HP} {h : HP} (hQ : ∀ sz', Q (.inl (some (.int res.1))) res.2 sz') {v0 : Nat} {v1 : Int32} {v2 : Int32} {sz : Nat} (hf : b_X8_put_0 v0 v1 v2 h  = some res) : SP l X M_X8_put 0 [(0, .ref v0), (1, .int v1), (2, .int v2)] [] h sz bc bs Q := by
  rw [b_X8_put_0] at hf
  refine sp_aload_n (pc := 0) dX8_put_0 0 rfl ?_
  refine sp_aload_n (pc := 1) dX8_put_1 0 rfl ?_
  refine sp_iload_n (pc := 2) dX8_put_2 1 rfl ?_
  refine sp_iload_n (pc := 3) dX8_put_3 2 rfl ?_
  obtain ⟨y1, ey1, hf⟩ := ob hf
  obtain ⟨fsy1, hoy1⟩ := o_X8_putFault ey1
  refine sp_callVi (pc := 4) (z := M_X8_putFault) (As := [.int v1, .int v2]) (b := v0) (bc2 := bc) (bs2 := bs) (m_X8_putFault (Q := _) (fun sz => ⟨y1, rfl, ?_⟩) ey1) rfl dX8_put_4 hoy1 rfl rfl ck_X8_put_149 (Nat.le_of_ble_eq_true rfl) rfl rfl rfl
  obtain ⟨y2, ey2, hf⟩ := ob hf
  obtain ⟨fsy2, hoy2⟩ := o_X8_holds ey2
  refine sp_callVi (pc := 7) (z := M_X8_holds) (As := [.int y1]) (b := v0) (bc2 := bc) (bs2 := bs) (m_X8_holds (Q := _) (fun sz => ⟨y2.1, rfl, ?_⟩) ey2) rfl dX8_put_7 hoy2 rfl rfl ck_X8_put_124 (Nat.le_of_ble_eq_true rfl) rfl rfl rfl
  refine sp_if_ne (pc := 10) (tgt := 15) dX8_put_10 (by decide) (fun c3 => ?_) (fun c3 => ?_)
  · rw [if_neg c3] at hf
    refine sp_aload_n (pc := 15) dX8_put_15 0 rfl ?_
    obtain ⟨y4, ey4, hf⟩ := ob hf
    obtain ⟨fsy4, hoy4⟩ := o_X8_remember ey4
    refine sp_callVv (pc := 16) (z := M_X8_remember) (As := []) (b := v0) (bc2 := bc) (bs2 := bs) (m_X8_remember (Q := _) (fun sz => ⟨(), rfl, ?_⟩) ey4) rfl dX8_put_16 hoy4 rfl rfl ck_X8_put_212 (Nat.le_of_ble_eq_true rfl) rfl rfl rfl
    refine sp_aload_n (pc := 19) dX8_put_19 0 rfl ?_
    refine sp_iload_n (pc := 20) dX8_put_20 1 rfl ?_
    refine sp_iload_n (pc := 21) dX8_put_21 1 rfl ?_
    refine sp_iload_n (pc := 22) dX8_put_22 2 rfl ?_
    obtain ⟨y5, ey5, hf⟩ := ob hf
    obtain ⟨fsy5, hoy5⟩ := o_X8_writes ey5
    refine sp_callVi (pc := 23) (z := M_X8_writes) (As := [.int v1, .int v1, .int v2]) (b := v0) (bc2 := bc) (bs2 := bs) (m_X8_writes (Q := _) (fun sz => ⟨y5.1, rfl, ?_⟩) ey5) rfl dX8_put_23 hoy5 rfl rfl ck_X8_put_104 (Nat.le_of_ble_eq_true rfl) rfl rfl rfl
    obtain rfl := Option.some.inj hf
    exact sp_ireturn (pc := 26) dX8_put_26 rfl rfl (hQ _)
  · rw [if_pos c3] at hf
    refine sp_iconst (pc := 13) (v := 0) dX8_put_13 (by decide) ?_
    obtain rfl := Option.some.inj hf
    exact sp_ireturn (pc := 14) dX8_put_14 rfl rfl (hQ _)

theorem o_X8_put {h : HP} {v0 : Nat} {v1 : Int32} {v2 : Int32} {res : Int32 × HP} (hf : f_X8_put h v0 v1 v2 = some res) : ∃ fs, h v0 = some (.inr (8, fs)) := by
  obtain ⟨u, eu, -⟩ := ob hf
  exact kO_spec eu

theorem m_X8_put {l : Launch} {Q : PST} {h : HP} {v0 : Nat} {v1 : Int32} {v2 : Int32} {sz : Nat} {res : Int32 × HP} (hQ : ∀ sz', Q (.inl (some (.int res.1))) res.2 sz') (hf : f_X8_put h v0 v1 v2 = some res) : MM l M_X8_put [.ref v0, .int v1, .int v2] h sz Q := by
  obtain ⟨u, eu, hf⟩ := ob hf
  exact MM_of wok_X8_put (by decide +kernel) (Nat.le_of_ble_eq_true rfl) ((w_X8_put_0 hQ hf))

theorem dX8_bury_0 : decode (mB M_X8_bury) 0 = .ok (.aload_n 0, 1) := by decide +kernel
theorem dX8_bury_1 : decode (mB M_X8_bury) 1 = .ok (.aload_n 0, 1) := by decide +kernel
theorem dX8_bury_2 : decode (mB M_X8_bury) 2 = .ok (.iload_n 1, 1) := by decide +kernel
theorem dX8_bury_3 : decode (mB M_X8_bury) 3 = .ok (.iload_n 2, 1) := by decide +kernel
theorem dX8_bury_4 : decode (mB M_X8_bury) 4 = .ok (.invokevirtual 152, 3) := by decide +kernel
theorem dX8_bury_7 : decode (mB M_X8_bury) 7 = .ok (.invokevirtual 124, 3) := by decide +kernel
theorem dX8_bury_10 : decode (mB M_X8_bury) 10 = .ok (.ifCond .ne 5, 3) := by decide +kernel
theorem dX8_bury_13 : decode (mB M_X8_bury) 13 = .ok (.iconst 0, 1) := by decide +kernel
theorem dX8_bury_14 : decode (mB M_X8_bury) 14 = .ok (.ireturn, 1) := by decide +kernel
theorem dX8_bury_15 : decode (mB M_X8_bury) 15 = .ok (.aload_n 0, 1) := by decide +kernel
theorem dX8_bury_16 : decode (mB M_X8_bury) 16 = .ok (.invokevirtual 212, 3) := by decide +kernel
theorem dX8_bury_19 : decode (mB M_X8_bury) 19 = .ok (.aload_n 0, 1) := by decide +kernel
theorem dX8_bury_20 : decode (mB M_X8_bury) 20 = .ok (.iload_n 1, 1) := by decide +kernel
theorem dX8_bury_21 : decode (mB M_X8_bury) 21 = .ok (.iload_n 2, 1) := by decide +kernel
theorem dX8_bury_22 : decode (mB M_X8_bury) 22 = .ok (.invokevirtual 164, 3) := by decide +kernel
theorem dX8_bury_25 : decode (mB M_X8_bury) 25 = .ok (.ireturn, 1) := by decide +kernel
def b_X8_bury_0 (v0 : Nat) (v1 : Int32) (v2 : Int32) (h : HP) : Option (Int32 × HP) :=
  (f_X8_buryFault h v0 v1 v2).bind fun y1 => (f_X8_holds h v0 y1).bind fun y2 => if y2.1 = 0 then some (0, y2.2) else (f_X8_remember y2.2 v0).bind fun y4 => (f_X8_buries y4 v0 v1 v2).bind fun y5 => some (y5.1, y5.2)
def f_X8_bury (h : HP) (v0 : Nat) (v1 : Int32) (v2 : Int32) : Option (Int32 × HP) := (kO 8 h v0).bind fun _ => b_X8_bury_0 v0 v1 v2 h
theorem w_X8_bury_0 {l : Launch} {X : SCR} {Q : PST} {bc bs : Nat} {res : Int32 × HP} {h : HP} (hQ : ∀ sz', Q (.inl (some (.int res.1))) res.2 sz') {v0 : Nat} {v1 : Int32} {v2 : Int32} {sz : Nat} (hf : b_X8_bury_0 v0 v1 v2 h  = some res) : SP l X M_X8_bury 0 [(0, .ref v0), (1, .int v1), (2, .int v2)] [] h sz bc bs Q := by
  rw [b_X8_bury_0] at hf
  refine sp_aload_n (pc := 0) dX8_bury_0 0 rfl ?_
  refine sp_aload_n (pc := 1) dX8_bury_1 0 rfl ?_
  refine sp_iload_n (pc := 2) dX8_bury_2 1 rfl ?_
  refine sp_iload_n (pc := 3) dX8_bury_3 2 rfl ?_
  obtain ⟨y1, ey1, hf⟩ := ob hf
  obtain ⟨fsy1, hoy1⟩ := o_X8_buryFault ey1
  refine sp_callVi (pc := 4) (z := M_X8_buryFault) (As := [.int v1, .int v2]) (b := v0) (bc2 := bc) (bs2 := bs) (m_X8_buryFault (Q := _) (fun sz => ⟨y1, rfl, ?_⟩) ey1) rfl dX8_bury_4 hoy1 rfl rfl ck_X8_bury_152 (Nat.le_of_ble_eq_true rfl) rfl rfl rfl
  obtain ⟨y2, ey2, hf⟩ := ob hf
  obtain ⟨fsy2, hoy2⟩ := o_X8_holds ey2
  refine sp_callVi (pc := 7) (z := M_X8_holds) (As := [.int y1]) (b := v0) (bc2 := bc) (bs2 := bs) (m_X8_holds (Q := _) (fun sz => ⟨y2.1, rfl, ?_⟩) ey2) rfl dX8_bury_7 hoy2 rfl rfl ck_X8_bury_124 (Nat.le_of_ble_eq_true rfl) rfl rfl rfl
  refine sp_if_ne (pc := 10) (tgt := 15) dX8_bury_10 (by decide) (fun c3 => ?_) (fun c3 => ?_)
  · rw [if_neg c3] at hf
    refine sp_aload_n (pc := 15) dX8_bury_15 0 rfl ?_
    obtain ⟨y4, ey4, hf⟩ := ob hf
    obtain ⟨fsy4, hoy4⟩ := o_X8_remember ey4
    refine sp_callVv (pc := 16) (z := M_X8_remember) (As := []) (b := v0) (bc2 := bc) (bs2 := bs) (m_X8_remember (Q := _) (fun sz => ⟨(), rfl, ?_⟩) ey4) rfl dX8_bury_16 hoy4 rfl rfl ck_X8_bury_212 (Nat.le_of_ble_eq_true rfl) rfl rfl rfl
    refine sp_aload_n (pc := 19) dX8_bury_19 0 rfl ?_
    refine sp_iload_n (pc := 20) dX8_bury_20 1 rfl ?_
    refine sp_iload_n (pc := 21) dX8_bury_21 2 rfl ?_
    obtain ⟨y5, ey5, hf⟩ := ob hf
    obtain ⟨fsy5, hoy5⟩ := o_X8_buries ey5
    refine sp_callVi (pc := 22) (z := M_X8_buries) (As := [.int v1, .int v2]) (b := v0) (bc2 := bc) (bs2 := bs) (m_X8_buries (Q := _) (fun sz => ⟨y5.1, rfl, ?_⟩) ey5) rfl dX8_bury_22 hoy5 rfl rfl ck_X8_bury_164 (Nat.le_of_ble_eq_true rfl) rfl rfl rfl
    obtain rfl := Option.some.inj hf
    exact sp_ireturn (pc := 25) dX8_bury_25 rfl rfl (hQ _)
  · rw [if_pos c3] at hf
    refine sp_iconst (pc := 13) (v := 0) dX8_bury_13 (by decide) ?_
    obtain rfl := Option.some.inj hf
    exact sp_ireturn (pc := 14) dX8_bury_14 rfl rfl (hQ _)

theorem o_X8_bury {h : HP} {v0 : Nat} {v1 : Int32} {v2 : Int32} {res : Int32 × HP} (hf : f_X8_bury h v0 v1 v2 = some res) : ∃ fs, h v0 = some (.inr (8, fs)) := by
  obtain ⟨u, eu, -⟩ := ob hf
  exact kO_spec eu

theorem m_X8_bury {l : Launch} {Q : PST} {h : HP} {v0 : Nat} {v1 : Int32} {v2 : Int32} {sz : Nat} {res : Int32 × HP} (hQ : ∀ sz', Q (.inl (some (.int res.1))) res.2 sz') (hf : f_X8_bury h v0 v1 v2 = some res) : MM l M_X8_bury [.ref v0, .int v1, .int v2] h sz Q := by
  obtain ⟨u, eu, hf⟩ := ob hf
  exact MM_of wok_X8_bury (by decide +kernel) (Nat.le_of_ble_eq_true rfl) ((w_X8_bury_0 hQ hf))

theorem dX8_open_0 : decode (mB M_X8_open) 0 = .ok (.aload_n 0, 1) := by decide +kernel
theorem dX8_open_1 : decode (mB M_X8_open) 1 = .ok (.aload_n 0, 1) := by decide +kernel
theorem dX8_open_2 : decode (mB M_X8_open) 2 = .ok (.getfield 7, 3) := by decide +kernel
theorem dX8_open_5 : decode (mB M_X8_open) 5 = .ok (.bipush 7, 2) := by decide +kernel
theorem dX8_open_7 : decode (mB M_X8_open) 7 = .ok (.iaload, 1) := by decide +kernel
theorem dX8_open_8 : decode (mB M_X8_open) 8 = .ok (.iconst 2, 1) := by decide +kernel
theorem dX8_open_9 : decode (mB M_X8_open) 9 = .ok (.if_icmp .ne 7, 3) := by decide +kernel
theorem dX8_open_12 : decode (mB M_X8_open) 12 = .ok (.iconst 1, 1) := by decide +kernel
theorem dX8_open_13 : decode (mB M_X8_open) 13 = .ok (.goto 4, 3) := by decide +kernel
theorem dX8_open_16 : decode (mB M_X8_open) 16 = .ok (.iconst 0, 1) := by decide +kernel
theorem dX8_open_17 : decode (mB M_X8_open) 17 = .ok (.invokevirtual 124, 3) := by decide +kernel
theorem dX8_open_20 : decode (mB M_X8_open) 20 = .ok (.ifCond .ne 5, 3) := by decide +kernel
theorem dX8_open_23 : decode (mB M_X8_open) 23 = .ok (.iconst 0, 1) := by decide +kernel
theorem dX8_open_24 : decode (mB M_X8_open) 24 = .ok (.ireturn, 1) := by decide +kernel
theorem dX8_open_25 : decode (mB M_X8_open) 25 = .ok (.aload_n 0, 1) := by decide +kernel
theorem dX8_open_26 : decode (mB M_X8_open) 26 = .ok (.invokevirtual 212, 3) := by decide +kernel
theorem dX8_open_29 : decode (mB M_X8_open) 29 = .ok (.aload_n 0, 1) := by decide +kernel
theorem dX8_open_30 : decode (mB M_X8_open) 30 = .ok (.invokevirtual 173, 3) := by decide +kernel
theorem dX8_open_33 : decode (mB M_X8_open) 33 = .ok (.ireturn, 1) := by decide +kernel
def b_X8_open_17 (v0 : Nat) (h : HP) (s0 : Nat) (s1 : Int32) : Option (Int32 × HP) :=
  (f_X8_holds h s0 s1).bind fun y1 => if y1.1 = 0 then some (0, y1.2) else (f_X8_remember y1.2 v0).bind fun y3 => (f_X8_opens y3 v0).bind fun y4 => some (y4.1, y4.2)
def b_X8_open_0 (v0 : Nat) (h : HP) : Option (Int32 × HP) :=
  (gR 8 1 h v0).bind fun x1 => (aI h x1 7).bind fun x2 => if x2 = 2 then b_X8_open_17 v0 h v0 1 else b_X8_open_17 v0 h v0 0
def f_X8_open (h : HP) (v0 : Nat) : Option (Int32 × HP) := (kO 8 h v0).bind fun _ => b_X8_open_0 v0 h
theorem w_X8_open_17 {l : Launch} {X : SCR} {Q : PST} {bc bs : Nat} {res : Int32 × HP} {h : HP} (hQ : ∀ sz', Q (.inl (some (.int res.1))) res.2 sz') {v0 : Nat} {s0 : Nat} {s1 : Int32} {sz : Nat} (hf : b_X8_open_17 v0 h s0 s1 = some res) : SP l X M_X8_open 17 [(0, .ref v0)] [.int s1, .ref s0] h sz bc bs Q := by
  rw [b_X8_open_17] at hf
  obtain ⟨y1, ey1, hf⟩ := ob hf
  obtain ⟨fsy1, hoy1⟩ := o_X8_holds ey1
  refine sp_callVi (pc := 17) (z := M_X8_holds) (As := [.int s1]) (b := s0) (bc2 := bc) (bs2 := bs) (m_X8_holds (Q := _) (fun sz => ⟨y1.1, rfl, ?_⟩) ey1) rfl dX8_open_17 hoy1 rfl rfl ck_X8_open_124 (Nat.le_of_ble_eq_true rfl) rfl rfl rfl
  refine sp_if_ne (pc := 20) (tgt := 25) dX8_open_20 (by decide) (fun c2 => ?_) (fun c2 => ?_)
  · rw [if_neg c2] at hf
    refine sp_aload_n (pc := 25) dX8_open_25 0 rfl ?_
    obtain ⟨y3, ey3, hf⟩ := ob hf
    obtain ⟨fsy3, hoy3⟩ := o_X8_remember ey3
    refine sp_callVv (pc := 26) (z := M_X8_remember) (As := []) (b := v0) (bc2 := bc) (bs2 := bs) (m_X8_remember (Q := _) (fun sz => ⟨(), rfl, ?_⟩) ey3) rfl dX8_open_26 hoy3 rfl rfl ck_X8_open_212 (Nat.le_of_ble_eq_true rfl) rfl rfl rfl
    refine sp_aload_n (pc := 29) dX8_open_29 0 rfl ?_
    obtain ⟨y4, ey4, hf⟩ := ob hf
    obtain ⟨fsy4, hoy4⟩ := o_X8_opens ey4
    refine sp_callVi (pc := 30) (z := M_X8_opens) (As := []) (b := v0) (bc2 := bc) (bs2 := bs) (m_X8_opens (Q := _) (fun sz => ⟨y4.1, rfl, ?_⟩) ey4) rfl dX8_open_30 hoy4 rfl rfl ck_X8_open_173 (Nat.le_of_ble_eq_true rfl) rfl rfl rfl
    obtain rfl := Option.some.inj hf
    exact sp_ireturn (pc := 33) dX8_open_33 rfl rfl (hQ _)
  · rw [if_pos c2] at hf
    refine sp_iconst (pc := 23) (v := 0) dX8_open_23 (by decide) ?_
    obtain rfl := Option.some.inj hf
    exact sp_ireturn (pc := 24) dX8_open_24 rfl rfl (hQ _)

theorem w_X8_open_0 {l : Launch} {X : SCR} {Q : PST} {bc bs : Nat} {res : Int32 × HP} {h : HP} (hQ : ∀ sz', Q (.inl (some (.int res.1))) res.2 sz') {v0 : Nat} {sz : Nat} (hf : b_X8_open_0 v0 h  = some res) : SP l X M_X8_open 0 [(0, .ref v0)] [] h sz bc bs Q := by
  rw [b_X8_open_0] at hf
  refine sp_aload_n (pc := 0) dX8_open_0 0 rfl ?_
  refine sp_aload_n (pc := 1) dX8_open_1 0 rfl ?_
  obtain ⟨x1, ex1, hf⟩ := ob hf
  refine sp_gR (pc := 2) fl_RX8_7 dX8_open_2 ex1 ?_
  refine sp_bipush (pc := 5) (v := 7) dX8_open_5 (by decide) ?_
  obtain ⟨x2, ex2, hf⟩ := ob hf
  refine sp_aI (pc := 7) dX8_open_7 ex2 ?_
  refine sp_iconst (pc := 8) (v := 2) dX8_open_8 (by decide) ?_
  refine sp_icmp_ne (pc := 9) (tgt := 16) dX8_open_9 (by decide) (fun c3 => ?_) (fun c3 => ?_)
  · rw [if_neg c3] at hf
    refine sp_iconst (pc := 16) (v := 0) dX8_open_16 (by decide) ?_
    exact (w_X8_open_17 hQ hf)
  · rw [if_pos c3] at hf
    refine sp_iconst (pc := 12) (v := 1) dX8_open_12 (by decide) ?_
    refine sp_goto (pc := 13) (tgt := 17) dX8_open_13 (by decide) ?_
    exact (w_X8_open_17 hQ hf)

theorem o_X8_open {h : HP} {v0 : Nat} {res : Int32 × HP} (hf : f_X8_open h v0 = some res) : ∃ fs, h v0 = some (.inr (8, fs)) := by
  obtain ⟨u, eu, -⟩ := ob hf
  exact kO_spec eu

theorem m_X8_open {l : Launch} {Q : PST} {h : HP} {v0 : Nat} {sz : Nat} {res : Int32 × HP} (hQ : ∀ sz', Q (.inl (some (.int res.1))) res.2 sz') (hf : f_X8_open h v0 = some res) : MM l M_X8_open [.ref v0] h sz Q := by
  obtain ⟨u, eu, hf⟩ := ob hf
  exact MM_of wok_X8_open (by decide +kernel) (Nat.le_of_ble_eq_true rfl) ((w_X8_open_0 hQ hf))

theorem dX8_close_0 : decode (mB M_X8_close) 0 = .ok (.aload_n 0, 1) := by decide +kernel
theorem dX8_close_1 : decode (mB M_X8_close) 1 = .ok (.aload_n 0, 1) := by decide +kernel
theorem dX8_close_2 : decode (mB M_X8_close) 2 = .ok (.iload_n 1, 1) := by decide +kernel
theorem dX8_close_3 : decode (mB M_X8_close) 3 = .ok (.invokevirtual 161, 3) := by decide +kernel
theorem dX8_close_6 : decode (mB M_X8_close) 6 = .ok (.ifCond .eq 7, 3) := by decide +kernel
theorem dX8_close_9 : decode (mB M_X8_close) 9 = .ok (.iconst 0, 1) := by decide +kernel
theorem dX8_close_10 : decode (mB M_X8_close) 10 = .ok (.goto 4, 3) := by decide +kernel
theorem dX8_close_13 : decode (mB M_X8_close) 13 = .ok (.iconst 1, 1) := by decide +kernel
theorem dX8_close_14 : decode (mB M_X8_close) 14 = .ok (.invokevirtual 124, 3) := by decide +kernel
theorem dX8_close_17 : decode (mB M_X8_close) 17 = .ok (.ifCond .ne 5, 3) := by decide +kernel
theorem dX8_close_20 : decode (mB M_X8_close) 20 = .ok (.iconst 0, 1) := by decide +kernel
theorem dX8_close_21 : decode (mB M_X8_close) 21 = .ok (.ireturn, 1) := by decide +kernel
theorem dX8_close_22 : decode (mB M_X8_close) 22 = .ok (.aload_n 0, 1) := by decide +kernel
theorem dX8_close_23 : decode (mB M_X8_close) 23 = .ok (.invokevirtual 212, 3) := by decide +kernel
theorem dX8_close_26 : decode (mB M_X8_close) 26 = .ok (.aload_n 0, 1) := by decide +kernel
theorem dX8_close_27 : decode (mB M_X8_close) 27 = .ok (.iload_n 1, 1) := by decide +kernel
theorem dX8_close_28 : decode (mB M_X8_close) 28 = .ok (.invokevirtual 176, 3) := by decide +kernel
theorem dX8_close_31 : decode (mB M_X8_close) 31 = .ok (.ireturn, 1) := by decide +kernel
def b_X8_close_14 (v0 : Nat) (v1 : Int32) (h : HP) (s0 : Nat) (s1 : Int32) : Option (Int32 × HP) :=
  (f_X8_holds h s0 s1).bind fun y1 => if y1.1 = 0 then some (0, y1.2) else (f_X8_remember y1.2 v0).bind fun y3 => (f_X8_closes y3 v0 v1).bind fun y4 => some (y4.1, y4.2)
def b_X8_close_0 (v0 : Nat) (v1 : Int32) (h : HP) : Option (Int32 × HP) :=
  (f_X8_isEye h v0 v1).bind fun y1 => if y1 = 0 then b_X8_close_14 v0 v1 h v0 1 else b_X8_close_14 v0 v1 h v0 0
def f_X8_close (h : HP) (v0 : Nat) (v1 : Int32) : Option (Int32 × HP) := (kO 8 h v0).bind fun _ => b_X8_close_0 v0 v1 h
theorem w_X8_close_14 {l : Launch} {X : SCR} {Q : PST} {bc bs : Nat} {res : Int32 × HP} {h : HP} (hQ : ∀ sz', Q (.inl (some (.int res.1))) res.2 sz') {v0 : Nat} {v1 : Int32} {s0 : Nat} {s1 : Int32} {sz : Nat} (hf : b_X8_close_14 v0 v1 h s0 s1 = some res) : SP l X M_X8_close 14 [(0, .ref v0), (1, .int v1)] [.int s1, .ref s0] h sz bc bs Q := by
  rw [b_X8_close_14] at hf
  obtain ⟨y1, ey1, hf⟩ := ob hf
  obtain ⟨fsy1, hoy1⟩ := o_X8_holds ey1
  refine sp_callVi (pc := 14) (z := M_X8_holds) (As := [.int s1]) (b := s0) (bc2 := bc) (bs2 := bs) (m_X8_holds (Q := _) (fun sz => ⟨y1.1, rfl, ?_⟩) ey1) rfl dX8_close_14 hoy1 rfl rfl ck_X8_close_124 (Nat.le_of_ble_eq_true rfl) rfl rfl rfl
  refine sp_if_ne (pc := 17) (tgt := 22) dX8_close_17 (by decide) (fun c2 => ?_) (fun c2 => ?_)
  · rw [if_neg c2] at hf
    refine sp_aload_n (pc := 22) dX8_close_22 0 rfl ?_
    obtain ⟨y3, ey3, hf⟩ := ob hf
    obtain ⟨fsy3, hoy3⟩ := o_X8_remember ey3
    refine sp_callVv (pc := 23) (z := M_X8_remember) (As := []) (b := v0) (bc2 := bc) (bs2 := bs) (m_X8_remember (Q := _) (fun sz => ⟨(), rfl, ?_⟩) ey3) rfl dX8_close_23 hoy3 rfl rfl ck_X8_close_212 (Nat.le_of_ble_eq_true rfl) rfl rfl rfl
    refine sp_aload_n (pc := 26) dX8_close_26 0 rfl ?_
    refine sp_iload_n (pc := 27) dX8_close_27 1 rfl ?_
    obtain ⟨y4, ey4, hf⟩ := ob hf
    obtain ⟨fsy4, hoy4⟩ := o_X8_closes ey4
    refine sp_callVi (pc := 28) (z := M_X8_closes) (As := [.int v1]) (b := v0) (bc2 := bc) (bs2 := bs) (m_X8_closes (Q := _) (fun sz => ⟨y4.1, rfl, ?_⟩) ey4) rfl dX8_close_28 hoy4 rfl rfl ck_X8_close_176 (Nat.le_of_ble_eq_true rfl) rfl rfl rfl
    obtain rfl := Option.some.inj hf
    exact sp_ireturn (pc := 31) dX8_close_31 rfl rfl (hQ _)
  · rw [if_pos c2] at hf
    refine sp_iconst (pc := 20) (v := 0) dX8_close_20 (by decide) ?_
    obtain rfl := Option.some.inj hf
    exact sp_ireturn (pc := 21) dX8_close_21 rfl rfl (hQ _)

theorem w_X8_close_0 {l : Launch} {X : SCR} {Q : PST} {bc bs : Nat} {res : Int32 × HP} {h : HP} (hQ : ∀ sz', Q (.inl (some (.int res.1))) res.2 sz') {v0 : Nat} {v1 : Int32} {sz : Nat} (hf : b_X8_close_0 v0 v1 h  = some res) : SP l X M_X8_close 0 [(0, .ref v0), (1, .int v1)] [] h sz bc bs Q := by
  rw [b_X8_close_0] at hf
  refine sp_aload_n (pc := 0) dX8_close_0 0 rfl ?_
  refine sp_aload_n (pc := 1) dX8_close_1 0 rfl ?_
  refine sp_iload_n (pc := 2) dX8_close_2 1 rfl ?_
  obtain ⟨y1, ey1, hf⟩ := ob hf
  obtain ⟨fsy1, hoy1⟩ := o_X8_isEye ey1
  refine sp_callVi (pc := 3) (z := M_X8_isEye) (As := [.int v1]) (b := v0) (bc2 := bc) (bs2 := bs) (m_X8_isEye (Q := _) (fun sz => ⟨y1, rfl, ?_⟩) ey1) rfl dX8_close_3 hoy1 rfl rfl ck_X8_close_161 (Nat.le_of_ble_eq_true rfl) rfl rfl rfl
  refine sp_if_eq (pc := 6) (tgt := 13) dX8_close_6 (by decide) (fun c2 => ?_) (fun c2 => ?_)
  · rw [if_pos c2] at hf
    refine sp_iconst (pc := 13) (v := 1) dX8_close_13 (by decide) ?_
    exact (w_X8_close_14 hQ hf)
  · rw [if_neg c2] at hf
    refine sp_iconst (pc := 9) (v := 0) dX8_close_9 (by decide) ?_
    refine sp_goto (pc := 10) (tgt := 14) dX8_close_10 (by decide) ?_
    exact (w_X8_close_14 hQ hf)

theorem o_X8_close {h : HP} {v0 : Nat} {v1 : Int32} {res : Int32 × HP} (hf : f_X8_close h v0 v1 = some res) : ∃ fs, h v0 = some (.inr (8, fs)) := by
  obtain ⟨u, eu, -⟩ := ob hf
  exact kO_spec eu

theorem m_X8_close {l : Launch} {Q : PST} {h : HP} {v0 : Nat} {v1 : Int32} {sz : Nat} {res : Int32 × HP} (hQ : ∀ sz', Q (.inl (some (.int res.1))) res.2 sz') (hf : f_X8_close h v0 v1 = some res) : MM l M_X8_close [.ref v0, .int v1] h sz Q := by
  obtain ⟨u, eu, hf⟩ := ob hf
  exact MM_of wok_X8_close (by decide +kernel) (Nat.le_of_ble_eq_true rfl) ((w_X8_close_0 hQ hf))

theorem dX8_flush_0 : decode (mB M_X8_flush) 0 = .ok (.aload_n 0, 1) := by decide +kernel
theorem dX8_flush_1 : decode (mB M_X8_flush) 1 = .ok (.aload_n 0, 1) := by decide +kernel
theorem dX8_flush_2 : decode (mB M_X8_flush) 2 = .ok (.invokevirtual 155, 3) := by decide +kernel
theorem dX8_flush_5 : decode (mB M_X8_flush) 5 = .ok (.invokevirtual 124, 3) := by decide +kernel
theorem dX8_flush_8 : decode (mB M_X8_flush) 8 = .ok (.ifCond .ne 5, 3) := by decide +kernel
theorem dX8_flush_11 : decode (mB M_X8_flush) 11 = .ok (.iconst 0, 1) := by decide +kernel
theorem dX8_flush_12 : decode (mB M_X8_flush) 12 = .ok (.ireturn, 1) := by decide +kernel
theorem dX8_flush_13 : decode (mB M_X8_flush) 13 = .ok (.aload_n 0, 1) := by decide +kernel
theorem dX8_flush_14 : decode (mB M_X8_flush) 14 = .ok (.invokevirtual 212, 3) := by decide +kernel
theorem dX8_flush_17 : decode (mB M_X8_flush) 17 = .ok (.aload_n 0, 1) := by decide +kernel
theorem dX8_flush_18 : decode (mB M_X8_flush) 18 = .ok (.invokevirtual 167, 3) := by decide +kernel
theorem dX8_flush_21 : decode (mB M_X8_flush) 21 = .ok (.ireturn, 1) := by decide +kernel
def b_X8_flush_0 (v0 : Nat) (h : HP) : Option (Int32 × HP) :=
  (f_X8_flushFault h v0).bind fun y1 => (f_X8_holds y1.2 v0 y1.1).bind fun y2 => if y2.1 = 0 then some (0, y2.2) else (f_X8_remember y2.2 v0).bind fun y4 => (f_X8_flushes y4 v0).bind fun y5 => some (y5.1, y5.2)
def f_X8_flush (h : HP) (v0 : Nat) : Option (Int32 × HP) := (kO 8 h v0).bind fun _ => b_X8_flush_0 v0 h
theorem w_X8_flush_0 {l : Launch} {X : SCR} {Q : PST} {bc bs : Nat} {res : Int32 × HP} {h : HP} (hQ : ∀ sz', Q (.inl (some (.int res.1))) res.2 sz') {v0 : Nat} {sz : Nat} (hf : b_X8_flush_0 v0 h  = some res) : SP l X M_X8_flush 0 [(0, .ref v0)] [] h sz bc bs Q := by
  rw [b_X8_flush_0] at hf
  refine sp_aload_n (pc := 0) dX8_flush_0 0 rfl ?_
  refine sp_aload_n (pc := 1) dX8_flush_1 0 rfl ?_
  obtain ⟨y1, ey1, hf⟩ := ob hf
  obtain ⟨fsy1, hoy1⟩ := o_X8_flushFault ey1
  refine sp_callVi (pc := 2) (z := M_X8_flushFault) (As := []) (b := v0) (bc2 := bc) (bs2 := bs) (m_X8_flushFault (Q := _) (fun sz => ⟨y1.1, rfl, ?_⟩) ey1) rfl dX8_flush_2 hoy1 rfl rfl ck_X8_flush_155 (Nat.le_of_ble_eq_true rfl) rfl rfl rfl
  obtain ⟨y2, ey2, hf⟩ := ob hf
  obtain ⟨fsy2, hoy2⟩ := o_X8_holds ey2
  refine sp_callVi (pc := 5) (z := M_X8_holds) (As := [.int y1.1]) (b := v0) (bc2 := bc) (bs2 := bs) (m_X8_holds (Q := _) (fun sz => ⟨y2.1, rfl, ?_⟩) ey2) rfl dX8_flush_5 hoy2 rfl rfl ck_X8_flush_124 (Nat.le_of_ble_eq_true rfl) rfl rfl rfl
  refine sp_if_ne (pc := 8) (tgt := 13) dX8_flush_8 (by decide) (fun c3 => ?_) (fun c3 => ?_)
  · rw [if_neg c3] at hf
    refine sp_aload_n (pc := 13) dX8_flush_13 0 rfl ?_
    obtain ⟨y4, ey4, hf⟩ := ob hf
    obtain ⟨fsy4, hoy4⟩ := o_X8_remember ey4
    refine sp_callVv (pc := 14) (z := M_X8_remember) (As := []) (b := v0) (bc2 := bc) (bs2 := bs) (m_X8_remember (Q := _) (fun sz => ⟨(), rfl, ?_⟩) ey4) rfl dX8_flush_14 hoy4 rfl rfl ck_X8_flush_212 (Nat.le_of_ble_eq_true rfl) rfl rfl rfl
    refine sp_aload_n (pc := 17) dX8_flush_17 0 rfl ?_
    obtain ⟨y5, ey5, hf⟩ := ob hf
    obtain ⟨fsy5, hoy5⟩ := o_X8_flushes ey5
    refine sp_callVi (pc := 18) (z := M_X8_flushes) (As := []) (b := v0) (bc2 := bc) (bs2 := bs) (m_X8_flushes (Q := _) (fun sz => ⟨y5.1, rfl, ?_⟩) ey5) rfl dX8_flush_18 hoy5 rfl rfl ck_X8_flush_167 (Nat.le_of_ble_eq_true rfl) rfl rfl rfl
    obtain rfl := Option.some.inj hf
    exact sp_ireturn (pc := 21) dX8_flush_21 rfl rfl (hQ _)
  · rw [if_pos c3] at hf
    refine sp_iconst (pc := 11) (v := 0) dX8_flush_11 (by decide) ?_
    obtain rfl := Option.some.inj hf
    exact sp_ireturn (pc := 12) dX8_flush_12 rfl rfl (hQ _)

theorem o_X8_flush {h : HP} {v0 : Nat} {res : Int32 × HP} (hf : f_X8_flush h v0 = some res) : ∃ fs, h v0 = some (.inr (8, fs)) := by
  obtain ⟨u, eu, -⟩ := ob hf
  exact kO_spec eu

theorem m_X8_flush {l : Launch} {Q : PST} {h : HP} {v0 : Nat} {sz : Nat} {res : Int32 × HP} (hQ : ∀ sz', Q (.inl (some (.int res.1))) res.2 sz') (hf : f_X8_flush h v0 = some res) : MM l M_X8_flush [.ref v0] h sz Q := by
  obtain ⟨u, eu, hf⟩ := ob hf
  exact MM_of wok_X8_flush (by decide +kernel) (Nat.le_of_ble_eq_true rfl) ((w_X8_flush_0 hQ hf))

theorem dX8_merge_0 : decode (mB M_X8_merge) 0 = .ok (.aload_n 0, 1) := by decide +kernel
theorem dX8_merge_1 : decode (mB M_X8_merge) 1 = .ok (.aload_n 0, 1) := by decide +kernel
theorem dX8_merge_2 : decode (mB M_X8_merge) 2 = .ok (.iload_n 1, 1) := by decide +kernel
theorem dX8_merge_3 : decode (mB M_X8_merge) 3 = .ok (.invokevirtual 158, 3) := by decide +kernel
theorem dX8_merge_6 : decode (mB M_X8_merge) 6 = .ok (.invokevirtual 124, 3) := by decide +kernel
theorem dX8_merge_9 : decode (mB M_X8_merge) 9 = .ok (.ifCond .ne 5, 3) := by decide +kernel
theorem dX8_merge_12 : decode (mB M_X8_merge) 12 = .ok (.iconst 0, 1) := by decide +kernel
theorem dX8_merge_13 : decode (mB M_X8_merge) 13 = .ok (.ireturn, 1) := by decide +kernel
theorem dX8_merge_14 : decode (mB M_X8_merge) 14 = .ok (.aload_n 0, 1) := by decide +kernel
theorem dX8_merge_15 : decode (mB M_X8_merge) 15 = .ok (.invokevirtual 212, 3) := by decide +kernel
theorem dX8_merge_18 : decode (mB M_X8_merge) 18 = .ok (.aload_n 0, 1) := by decide +kernel
theorem dX8_merge_19 : decode (mB M_X8_merge) 19 = .ok (.iload_n 1, 1) := by decide +kernel
theorem dX8_merge_20 : decode (mB M_X8_merge) 20 = .ok (.invokevirtual 170, 3) := by decide +kernel
theorem dX8_merge_23 : decode (mB M_X8_merge) 23 = .ok (.ireturn, 1) := by decide +kernel
def b_X8_merge_0 (v0 : Nat) (v1 : Int32) (h : HP) : Option (Int32 × HP) :=
  (f_X8_mergeFault h v0 v1).bind fun y1 => (f_X8_holds y1.2 v0 y1.1).bind fun y2 => if y2.1 = 0 then some (0, y2.2) else (f_X8_remember y2.2 v0).bind fun y4 => (f_X8_merges y4 v0 v1).bind fun y5 => some (y5.1, y5.2)
def f_X8_merge (h : HP) (v0 : Nat) (v1 : Int32) : Option (Int32 × HP) := (kO 8 h v0).bind fun _ => b_X8_merge_0 v0 v1 h
theorem w_X8_merge_0 {l : Launch} {X : SCR} {Q : PST} {bc bs : Nat} {res : Int32 × HP} {h : HP} (hQ : ∀ sz', Q (.inl (some (.int res.1))) res.2 sz') {v0 : Nat} {v1 : Int32} {sz : Nat} (hf : b_X8_merge_0 v0 v1 h  = some res) : SP l X M_X8_merge 0 [(0, .ref v0), (1, .int v1)] [] h sz bc bs Q := by
  rw [b_X8_merge_0] at hf
  refine sp_aload_n (pc := 0) dX8_merge_0 0 rfl ?_
  refine sp_aload_n (pc := 1) dX8_merge_1 0 rfl ?_
  refine sp_iload_n (pc := 2) dX8_merge_2 1 rfl ?_
  obtain ⟨y1, ey1, hf⟩ := ob hf
  obtain ⟨fsy1, hoy1⟩ := o_X8_mergeFault ey1
  refine sp_callVi (pc := 3) (z := M_X8_mergeFault) (As := [.int v1]) (b := v0) (bc2 := bc) (bs2 := bs) (m_X8_mergeFault (Q := _) (fun sz => ⟨y1.1, rfl, ?_⟩) ey1) rfl dX8_merge_3 hoy1 rfl rfl ck_X8_merge_158 (Nat.le_of_ble_eq_true rfl) rfl rfl rfl
  obtain ⟨y2, ey2, hf⟩ := ob hf
  obtain ⟨fsy2, hoy2⟩ := o_X8_holds ey2
  refine sp_callVi (pc := 6) (z := M_X8_holds) (As := [.int y1.1]) (b := v0) (bc2 := bc) (bs2 := bs) (m_X8_holds (Q := _) (fun sz => ⟨y2.1, rfl, ?_⟩) ey2) rfl dX8_merge_6 hoy2 rfl rfl ck_X8_merge_124 (Nat.le_of_ble_eq_true rfl) rfl rfl rfl
  refine sp_if_ne (pc := 9) (tgt := 14) dX8_merge_9 (by decide) (fun c3 => ?_) (fun c3 => ?_)
  · rw [if_neg c3] at hf
    refine sp_aload_n (pc := 14) dX8_merge_14 0 rfl ?_
    obtain ⟨y4, ey4, hf⟩ := ob hf
    obtain ⟨fsy4, hoy4⟩ := o_X8_remember ey4
    refine sp_callVv (pc := 15) (z := M_X8_remember) (As := []) (b := v0) (bc2 := bc) (bs2 := bs) (m_X8_remember (Q := _) (fun sz => ⟨(), rfl, ?_⟩) ey4) rfl dX8_merge_15 hoy4 rfl rfl ck_X8_merge_212 (Nat.le_of_ble_eq_true rfl) rfl rfl rfl
    refine sp_aload_n (pc := 18) dX8_merge_18 0 rfl ?_
    refine sp_iload_n (pc := 19) dX8_merge_19 1 rfl ?_
    obtain ⟨y5, ey5, hf⟩ := ob hf
    obtain ⟨fsy5, hoy5⟩ := o_X8_merges ey5
    refine sp_callVi (pc := 20) (z := M_X8_merges) (As := [.int v1]) (b := v0) (bc2 := bc) (bs2 := bs) (m_X8_merges (Q := _) (fun sz => ⟨y5.1, rfl, ?_⟩) ey5) rfl dX8_merge_20 hoy5 rfl rfl ck_X8_merge_170 (Nat.le_of_ble_eq_true rfl) rfl rfl rfl
    obtain rfl := Option.some.inj hf
    exact sp_ireturn (pc := 23) dX8_merge_23 rfl rfl (hQ _)
  · rw [if_pos c3] at hf
    refine sp_iconst (pc := 12) (v := 0) dX8_merge_12 (by decide) ?_
    obtain rfl := Option.some.inj hf
    exact sp_ireturn (pc := 13) dX8_merge_13 rfl rfl (hQ _)

theorem o_X8_merge {h : HP} {v0 : Nat} {v1 : Int32} {res : Int32 × HP} (hf : f_X8_merge h v0 v1 = some res) : ∃ fs, h v0 = some (.inr (8, fs)) := by
  obtain ⟨u, eu, -⟩ := ob hf
  exact kO_spec eu

theorem m_X8_merge {l : Launch} {Q : PST} {h : HP} {v0 : Nat} {v1 : Int32} {sz : Nat} {res : Int32 × HP} (hQ : ∀ sz', Q (.inl (some (.int res.1))) res.2 sz') (hf : f_X8_merge h v0 v1 = some res) : MM l M_X8_merge [.ref v0, .int v1] h sz Q := by
  obtain ⟨u, eu, hf⟩ := ob hf
  exact MM_of wok_X8_merge (by decide +kernel) (Nat.le_of_ble_eq_true rfl) ((w_X8_merge_0 hQ hf))

theorem dX8_undo_0 : decode (mB M_X8_undo) 0 = .ok (.aload_n 0, 1) := by decide +kernel
theorem dX8_undo_1 : decode (mB M_X8_undo) 1 = .ok (.aload_n 0, 1) := by decide +kernel
theorem dX8_undo_2 : decode (mB M_X8_undo) 2 = .ok (.getfield 43, 3) := by decide +kernel
theorem dX8_undo_5 : decode (mB M_X8_undo) 5 = .ok (.ifCond .le 7, 3) := by decide +kernel
theorem dX8_undo_8 : decode (mB M_X8_undo) 8 = .ok (.iconst 0, 1) := by decide +kernel
theorem dX8_undo_9 : decode (mB M_X8_undo) 9 = .ok (.goto 4, 3) := by decide +kernel
theorem dX8_undo_12 : decode (mB M_X8_undo) 12 = .ok (.iconst 1, 1) := by decide +kernel
theorem dX8_undo_13 : decode (mB M_X8_undo) 13 = .ok (.invokevirtual 124, 3) := by decide +kernel
theorem dX8_undo_16 : decode (mB M_X8_undo) 16 = .ok (.ifCond .ne 5, 3) := by decide +kernel
theorem dX8_undo_19 : decode (mB M_X8_undo) 19 = .ok (.iconst 0, 1) := by decide +kernel
theorem dX8_undo_20 : decode (mB M_X8_undo) 20 = .ok (.ireturn, 1) := by decide +kernel
theorem dX8_undo_21 : decode (mB M_X8_undo) 21 = .ok (.aload_n 0, 1) := by decide +kernel
theorem dX8_undo_22 : decode (mB M_X8_undo) 22 = .ok (.dup, 1) := by decide +kernel
theorem dX8_undo_23 : decode (mB M_X8_undo) 23 = .ok (.getfield 43, 3) := by decide +kernel
theorem dX8_undo_26 : decode (mB M_X8_undo) 26 = .ok (.iconst 1, 1) := by decide +kernel
theorem dX8_undo_27 : decode (mB M_X8_undo) 27 = .ok (.isub, 1) := by decide +kernel
theorem dX8_undo_28 : decode (mB M_X8_undo) 28 = .ok (.putfield 43, 3) := by decide +kernel
theorem dX8_undo_31 : decode (mB M_X8_undo) 31 = .ok (.iconst 0, 1) := by decide +kernel
theorem dX8_undo_32 : decode (mB M_X8_undo) 32 = .ok (.istore_n 1, 1) := by decide +kernel
theorem dX8_undo_33 : decode (mB M_X8_undo) 33 = .ok (.iload_n 1, 1) := by decide +kernel
theorem dX8_undo_34 : decode (mB M_X8_undo) 34 = .ok (.sipush 204, 3) := by decide +kernel
theorem dX8_undo_37 : decode (mB M_X8_undo) 37 = .ok (.if_icmp .ge 30, 3) := by decide +kernel
theorem dX8_undo_40 : decode (mB M_X8_undo) 40 = .ok (.aload_n 0, 1) := by decide +kernel
theorem dX8_undo_41 : decode (mB M_X8_undo) 41 = .ok (.getfield 7, 3) := by decide +kernel
theorem dX8_undo_44 : decode (mB M_X8_undo) 44 = .ok (.iload_n 1, 1) := by decide +kernel
theorem dX8_undo_45 : decode (mB M_X8_undo) 45 = .ok (.aload_n 0, 1) := by decide +kernel
theorem dX8_undo_46 : decode (mB M_X8_undo) 46 = .ok (.getfield 16, 3) := by decide +kernel
theorem dX8_undo_49 : decode (mB M_X8_undo) 49 = .ok (.sipush 204, 3) := by decide +kernel
theorem dX8_undo_52 : decode (mB M_X8_undo) 52 = .ok (.aload_n 0, 1) := by decide +kernel
theorem dX8_undo_53 : decode (mB M_X8_undo) 53 = .ok (.getfield 43, 3) := by decide +kernel
theorem dX8_undo_56 : decode (mB M_X8_undo) 56 = .ok (.imul, 1) := by decide +kernel
theorem dX8_undo_57 : decode (mB M_X8_undo) 57 = .ok (.iload_n 1, 1) := by decide +kernel
theorem dX8_undo_58 : decode (mB M_X8_undo) 58 = .ok (.iadd, 1) := by decide +kernel
theorem dX8_undo_59 : decode (mB M_X8_undo) 59 = .ok (.iaload, 1) := by decide +kernel
theorem dX8_undo_60 : decode (mB M_X8_undo) 60 = .ok (.iastore, 1) := by decide +kernel
theorem dX8_undo_61 : decode (mB M_X8_undo) 61 = .ok (.iinc 1 1, 3) := by decide +kernel
theorem dX8_undo_64 : decode (mB M_X8_undo) 64 = .ok (.goto (-31), 3) := by decide +kernel
theorem dX8_undo_67 : decode (mB M_X8_undo) 67 = .ok (.aload_n 0, 1) := by decide +kernel
theorem dX8_undo_68 : decode (mB M_X8_undo) 68 = .ok (.getfield 43, 3) := by decide +kernel
theorem dX8_undo_71 : decode (mB M_X8_undo) 71 = .ok (.ireturn, 1) := by decide +kernel
def c_X8_undo_33 (v0 : Nat) (k33 : HP → Int32 → Option (Int32 × HP)) (h : HP) (v1 : Int32) : Option (Int32 × HP) :=
  if 204 ≤ v1 then (gI 8 4 h v0).bind fun x2 => some (x2, h) else (gR 8 1 h v0).bind fun x3 => (gR 8 3 h v0).bind fun x4 => (gI 8 4 h v0).bind fun x5 => (aI h x4 ((204 * x5) + v1)).bind fun x6 => (wI h x3 v1 x6).bind fun h7 => k33 h7 (v1 + 1)
def b_X8_undo_33 (v0 : Nat) : Nat → HP → Int32 → Option (Int32 × HP)
  | 0, _, _ => none
  | n + 1, h, v1 => c_X8_undo_33 v0 (b_X8_undo_33 v0 n) h v1
def b_X8_undo_13 (v0 : Nat) (h : HP) (s0 : Nat) (s1 : Int32) : Option (Int32 × HP) :=
  (f_X8_holds h s0 s1).bind fun y1 => if y1.1 = 0 then some (0, y1.2) else (gI 8 4 y1.2 v0).bind fun x3 => (pI 8 4 y1.2 v0 (x3 - 1)).bind fun h4 => b_X8_undo_33 v0 FU h4 0
def b_X8_undo_0 (v0 : Nat) (h : HP) : Option (Int32 × HP) :=
  (gI 8 4 h v0).bind fun x1 => if x1 ≤ 0 then b_X8_undo_13 v0 h v0 1 else b_X8_undo_13 v0 h v0 0
def f_X8_undo (h : HP) (v0 : Nat) : Option (Int32 × HP) := (kO 8 h v0).bind fun _ => b_X8_undo_0 v0 h
theorem wc_X8_undo_33 {l : Launch} {X : SCR} {Q : PST} {bc bs : Nat} {res : Int32 × HP} (hQ : ∀ sz', Q (.inl (some (.int res.1))) res.2 sz') {v0 : Nat} {k33 : HP → Int32 → Option (Int32 × HP)} (hk33 : ∀ (h : HP) (v1 : Int32) (sz : Nat), k33 h v1 = some res → SP l X M_X8_undo 33 [(0, .ref v0), (1, .int v1)] [] h sz bc bs Q) {h : HP} {v1 : Int32} {sz : Nat} (hf : c_X8_undo_33 v0 k33 h v1 = some res) : SP l X M_X8_undo 33 [(0, .ref v0), (1, .int v1)] [] h sz bc bs Q := by
  rw [c_X8_undo_33] at hf
  refine sp_iload_n (pc := 33) dX8_undo_33 1 rfl ?_
  refine sp_sipush (pc := 34) (v := 204) dX8_undo_34 (by decide) ?_
  refine sp_icmp_ge (pc := 37) (tgt := 67) dX8_undo_37 (by decide) (fun c1 => ?_) (fun c1 => ?_)
  · rw [if_pos c1] at hf
    refine sp_aload_n (pc := 67) dX8_undo_67 0 rfl ?_
    obtain ⟨x2, ex2, hf⟩ := ob hf
    refine sp_gI (pc := 68) fl_RX8_43 dX8_undo_68 ex2 ?_
    obtain rfl := Option.some.inj hf
    exact sp_ireturn (pc := 71) dX8_undo_71 rfl rfl (hQ _)
  · rw [if_neg c1] at hf
    refine sp_aload_n (pc := 40) dX8_undo_40 0 rfl ?_
    obtain ⟨x3, ex3, hf⟩ := ob hf
    refine sp_gR (pc := 41) fl_RX8_7 dX8_undo_41 ex3 ?_
    refine sp_iload_n (pc := 44) dX8_undo_44 1 rfl ?_
    refine sp_aload_n (pc := 45) dX8_undo_45 0 rfl ?_
    obtain ⟨x4, ex4, hf⟩ := ob hf
    refine sp_gR (pc := 46) fl_RX8_16 dX8_undo_46 ex4 ?_
    refine sp_sipush (pc := 49) (v := 204) dX8_undo_49 (by decide) ?_
    refine sp_aload_n (pc := 52) dX8_undo_52 0 rfl ?_
    obtain ⟨x5, ex5, hf⟩ := ob hf
    refine sp_gI (pc := 53) fl_RX8_43 dX8_undo_53 ex5 ?_
    refine sp_imul (pc := 56) dX8_undo_56 ?_
    refine sp_iload_n (pc := 57) dX8_undo_57 1 rfl ?_
    refine sp_iadd (pc := 58) dX8_undo_58 ?_
    obtain ⟨x6, ex6, hf⟩ := ob hf
    refine sp_aI (pc := 59) dX8_undo_59 ex6 ?_
    obtain ⟨h7, eh7, hf⟩ := ob hf
    refine sp_wI (pc := 60) dX8_undo_60 eh7 (fun sz => ?_)
    refine sp_iinc (pc := 61) (v := v1 + 1) (lv' := [(1, .int (v1 + 1)), (0, .ref v0)]) dX8_undo_61 1 rfl rfl (by decide) rfl ?_
    refine sp_goto (pc := 64) (tgt := 33) dX8_undo_64 (by decide) ?_
    exact sp_sub [1, 0] rfl (hk33 _ _ _ hf)

theorem w_X8_undo_33 {l : Launch} {X : SCR} {Q : PST} {bc bs : Nat} {res : Int32 × HP} (hQ : ∀ sz', Q (.inl (some (.int res.1))) res.2 sz') {v0 : Nat} : ∀ (n : Nat) {h : HP} {v1 : Int32} {sz : Nat}, b_X8_undo_33 v0 n h v1 = some res → SP l X M_X8_undo 33 [(0, .ref v0), (1, .int v1)] [] h sz bc bs Q := by
  intro n
  induction n with
  | zero =>
    intro h v1 sz hf
    rw [b_X8_undo_33] at hf
    cases hf
  | succ n ih =>
    intro h v1 sz hf
    rw [b_X8_undo_33] at hf
    exact wc_X8_undo_33 hQ (fun h v1 sz hf => ih hf) hf

theorem w_X8_undo_13 {l : Launch} {X : SCR} {Q : PST} {bc bs : Nat} {res : Int32 × HP} {h : HP} (hQ : ∀ sz', Q (.inl (some (.int res.1))) res.2 sz') {v0 : Nat} {s0 : Nat} {s1 : Int32} {sz : Nat} (hf : b_X8_undo_13 v0 h s0 s1 = some res) : SP l X M_X8_undo 13 [(0, .ref v0)] [.int s1, .ref s0] h sz bc bs Q := by
  rw [b_X8_undo_13] at hf
  obtain ⟨y1, ey1, hf⟩ := ob hf
  obtain ⟨fsy1, hoy1⟩ := o_X8_holds ey1
  refine sp_callVi (pc := 13) (z := M_X8_holds) (As := [.int s1]) (b := s0) (bc2 := bc) (bs2 := bs) (m_X8_holds (Q := _) (fun sz => ⟨y1.1, rfl, ?_⟩) ey1) rfl dX8_undo_13 hoy1 rfl rfl ck_X8_undo_124 (Nat.le_of_ble_eq_true rfl) rfl rfl rfl
  refine sp_if_ne (pc := 16) (tgt := 21) dX8_undo_16 (by decide) (fun c2 => ?_) (fun c2 => ?_)
  · rw [if_neg c2] at hf
    refine sp_aload_n (pc := 21) dX8_undo_21 0 rfl ?_
    refine sp_dup (pc := 22) dX8_undo_22 rfl ?_
    obtain ⟨x3, ex3, hf⟩ := ob hf
    refine sp_gI (pc := 23) fl_RX8_43 dX8_undo_23 ex3 ?_
    refine sp_iconst (pc := 26) (v := 1) dX8_undo_26 (by decide) ?_
    refine sp_isub (pc := 27) dX8_undo_27 ?_
    obtain ⟨h4, eh4, hf⟩ := ob hf
    refine sp_pI (pc := 28) pf_RX8_43 dX8_undo_28 eh4 (fun sz => ?_)
    refine sp_iconst (pc := 31) (v := 0) dX8_undo_31 (by decide) ?_
    refine sp_istore_n (pc := 32) (lv' := [(1, .int 0), (0, .ref v0)]) dX8_undo_32 (by decide) rfl ?_
    exact sp_sub [1, 0] rfl (w_X8_undo_33 hQ FU hf)
  · rw [if_pos c2] at hf
    refine sp_iconst (pc := 19) (v := 0) dX8_undo_19 (by decide) ?_
    obtain rfl := Option.some.inj hf
    exact sp_ireturn (pc := 20) dX8_undo_20 rfl rfl (hQ _)

theorem w_X8_undo_0 {l : Launch} {X : SCR} {Q : PST} {bc bs : Nat} {res : Int32 × HP} {h : HP} (hQ : ∀ sz', Q (.inl (some (.int res.1))) res.2 sz') {v0 : Nat} {sz : Nat} (hf : b_X8_undo_0 v0 h  = some res) : SP l X M_X8_undo 0 [(0, .ref v0)] [] h sz bc bs Q := by
  rw [b_X8_undo_0] at hf
  refine sp_aload_n (pc := 0) dX8_undo_0 0 rfl ?_
  refine sp_aload_n (pc := 1) dX8_undo_1 0 rfl ?_
  obtain ⟨x1, ex1, hf⟩ := ob hf
  refine sp_gI (pc := 2) fl_RX8_43 dX8_undo_2 ex1 ?_
  refine sp_if_le (pc := 5) (tgt := 12) dX8_undo_5 (by decide) (fun c2 => ?_) (fun c2 => ?_)
  · rw [if_pos c2] at hf
    refine sp_iconst (pc := 12) (v := 1) dX8_undo_12 (by decide) ?_
    exact (w_X8_undo_13 hQ hf)
  · rw [if_neg c2] at hf
    refine sp_iconst (pc := 8) (v := 0) dX8_undo_8 (by decide) ?_
    refine sp_goto (pc := 9) (tgt := 13) dX8_undo_9 (by decide) ?_
    exact (w_X8_undo_13 hQ hf)

theorem o_X8_undo {h : HP} {v0 : Nat} {res : Int32 × HP} (hf : f_X8_undo h v0 = some res) : ∃ fs, h v0 = some (.inr (8, fs)) := by
  obtain ⟨u, eu, -⟩ := ob hf
  exact kO_spec eu

theorem m_X8_undo {l : Launch} {Q : PST} {h : HP} {v0 : Nat} {sz : Nat} {res : Int32 × HP} (hQ : ∀ sz', Q (.inl (some (.int res.1))) res.2 sz') (hf : f_X8_undo h v0 = some res) : MM l M_X8_undo [.ref v0] h sz Q := by
  obtain ⟨u, eu, hf⟩ := ob hf
  exact MM_of wok_X8_undo (by decide +kernel) (Nat.le_of_ble_eq_true rfl) ((w_X8_undo_0 hQ hf))

theorem dX8_isIn_0 : decode (mB M_X8_isIn) 0 = .ok (.iconst 0, 1) := by decide +kernel
theorem dX8_isIn_1 : decode (mB M_X8_isIn) 1 = .ok (.istore_n 3, 1) := by decide +kernel
theorem dX8_isIn_2 : decode (mB M_X8_isIn) 2 = .ok (.aload_n 0, 1) := by decide +kernel
theorem dX8_isIn_3 : decode (mB M_X8_isIn) 3 = .ok (.iload_n 1, 1) := by decide +kernel
theorem dX8_isIn_4 : decode (mB M_X8_isIn) 4 = .ok (.invokevirtual 46, 3) := by decide +kernel
theorem dX8_isIn_7 : decode (mB M_X8_isIn) 7 = .ok (.istore 4, 2) := by decide +kernel
theorem dX8_isIn_9 : decode (mB M_X8_isIn) 9 = .ok (.iload 4, 2) := by decide +kernel
theorem dX8_isIn_11 : decode (mB M_X8_isIn) 11 = .ok (.aload_n 0, 1) := by decide +kernel
theorem dX8_isIn_12 : decode (mB M_X8_isIn) 12 = .ok (.iload_n 1, 1) := by decide +kernel
theorem dX8_isIn_13 : decode (mB M_X8_isIn) 13 = .ok (.invokevirtual 46, 3) := by decide +kernel
theorem dX8_isIn_16 : decode (mB M_X8_isIn) 16 = .ok (.aload_n 0, 1) := by decide +kernel
theorem dX8_isIn_17 : decode (mB M_X8_isIn) 17 = .ok (.iload_n 1, 1) := by decide +kernel
theorem dX8_isIn_18 : decode (mB M_X8_isIn) 18 = .ok (.invokevirtual 203, 3) := by decide +kernel
theorem dX8_isIn_21 : decode (mB M_X8_isIn) 21 = .ok (.iadd, 1) := by decide +kernel
theorem dX8_isIn_22 : decode (mB M_X8_isIn) 22 = .ok (.if_icmp .ge 29, 3) := by decide +kernel
theorem dX8_isIn_25 : decode (mB M_X8_isIn) 25 = .ok (.iload_n 3, 1) := by decide +kernel
theorem dX8_isIn_26 : decode (mB M_X8_isIn) 26 = .ok (.ifCond .ne 13, 3) := by decide +kernel
theorem dX8_isIn_29 : decode (mB M_X8_isIn) 29 = .ok (.aload_n 0, 1) := by decide +kernel
theorem dX8_isIn_30 : decode (mB M_X8_isIn) 30 = .ok (.iload 4, 2) := by decide +kernel
theorem dX8_isIn_32 : decode (mB M_X8_isIn) 32 = .ok (.iload_n 2, 1) := by decide +kernel
theorem dX8_isIn_33 : decode (mB M_X8_isIn) 33 = .ok (.invokevirtual 58, 3) := by decide +kernel
theorem dX8_isIn_36 : decode (mB M_X8_isIn) 36 = .ok (.ifCond .eq 7, 3) := by decide +kernel
theorem dX8_isIn_39 : decode (mB M_X8_isIn) 39 = .ok (.iconst 1, 1) := by decide +kernel
theorem dX8_isIn_40 : decode (mB M_X8_isIn) 40 = .ok (.goto 4, 3) := by decide +kernel
theorem dX8_isIn_43 : decode (mB M_X8_isIn) 43 = .ok (.iconst 0, 1) := by decide +kernel
theorem dX8_isIn_44 : decode (mB M_X8_isIn) 44 = .ok (.istore_n 3, 1) := by decide +kernel
theorem dX8_isIn_45 : decode (mB M_X8_isIn) 45 = .ok (.iinc 4 1, 3) := by decide +kernel
theorem dX8_isIn_48 : decode (mB M_X8_isIn) 48 = .ok (.goto (-39), 3) := by decide +kernel
theorem dX8_isIn_51 : decode (mB M_X8_isIn) 51 = .ok (.iload_n 3, 1) := by decide +kernel
theorem dX8_isIn_52 : decode (mB M_X8_isIn) 52 = .ok (.ireturn, 1) := by decide +kernel
def c_X8_isIn_9 (h : HP) (v0 : Nat) (v1 : Int32) (v2 : Int32) (k9 : Int32 → Int32 → Option (Int32)) (v3 : Int32) (v4 : Int32) : Option (Int32) :=
  (f_X8_begin h v0 v1).bind fun y1 => (f_X8_manyIn h v0 v1).bind fun y2 => if (y1 + y2) ≤ v4 then bz v3 else if v3 = 0 then (f_X8_concerns h v0 v4 v2).bind fun y5 => if y5 = 0 then k9 0 (v4 + 1) else k9 1 (v4 + 1) else k9 1 (v4 + 1)
def b_X8_isIn_9 (h : HP) (v0 : Nat) (v1 : Int32) (v2 : Int32) : Nat → Int32 → Int32 → Option (Int32)
  | 0, _, _ => none
  | n + 1, v3, v4 => c_X8_isIn_9 h v0 v1 v2 (b_X8_isIn_9 h v0 v1 v2 n) v3 v4
def b_X8_isIn_0 (h : HP) (v0 : Nat) (v1 : Int32) (v2 : Int32) : Option (Int32) :=
  (f_X8_begin h v0 v1).bind fun y1 => b_X8_isIn_9 h v0 v1 v2 FU 0 y1
def f_X8_isIn (h : HP) (v0 : Nat) (v1 : Int32) (v2 : Int32) : Option (Int32) := (kO 8 h v0).bind fun _ => b_X8_isIn_0 h v0 v1 v2
theorem wc_X8_isIn_9 {l : Launch} {X : SCR} {Q : PST} {bc bs : Nat} {res : Int32} {h : HP} (hQ : ∀ sz', Q (.inl (some (.int res))) h sz') {v0 : Nat} {v1 : Int32} {v2 : Int32} {k9 : Int32 → Int32 → Option (Int32)} (hk9 : ∀ (v3 : Int32) (v4 : Int32) (sz : Nat), k9 v3 v4 = some res → SP l X M_X8_isIn 9 [(0, .ref v0), (1, .int v1), (2, .int v2), (3, .int v3), (4, .int v4)] [] h sz bc bs Q) {v3 : Int32} {v4 : Int32} {sz : Nat} (hf : c_X8_isIn_9 h v0 v1 v2 k9 v3 v4 = some res) : SP l X M_X8_isIn 9 [(0, .ref v0), (1, .int v1), (2, .int v2), (3, .int v3), (4, .int v4)] [] h sz bc bs Q := by
  rw [c_X8_isIn_9] at hf
  refine sp_iload (pc := 9) dX8_isIn_9 4 rfl ?_
  refine sp_aload_n (pc := 11) dX8_isIn_11 0 rfl ?_
  refine sp_iload_n (pc := 12) dX8_isIn_12 1 rfl ?_
  obtain ⟨y1, ey1, hf⟩ := ob hf
  obtain ⟨fsy1, hoy1⟩ := o_X8_begin ey1
  refine sp_callVi (pc := 13) (z := M_X8_begin) (As := [.int v1]) (b := v0) (bc2 := bc) (bs2 := bs) (m_X8_begin (Q := _) (fun sz => ⟨y1, rfl, ?_⟩) ey1) rfl dX8_isIn_13 hoy1 rfl rfl ck_X8_isIn_46 (Nat.le_of_ble_eq_true rfl) rfl rfl rfl
  refine sp_aload_n (pc := 16) dX8_isIn_16 0 rfl ?_
  refine sp_iload_n (pc := 17) dX8_isIn_17 1 rfl ?_
  obtain ⟨y2, ey2, hf⟩ := ob hf
  obtain ⟨fsy2, hoy2⟩ := o_X8_manyIn ey2
  refine sp_callVi (pc := 18) (z := M_X8_manyIn) (As := [.int v1]) (b := v0) (bc2 := bc) (bs2 := bs) (m_X8_manyIn (Q := _) (fun sz => ⟨y2, rfl, ?_⟩) ey2) rfl dX8_isIn_18 hoy2 rfl rfl ck_X8_isIn_203 (Nat.le_of_ble_eq_true rfl) rfl rfl rfl
  refine sp_iadd (pc := 21) dX8_isIn_21 ?_
  refine sp_icmp_ge (pc := 22) (tgt := 51) dX8_isIn_22 (by decide) (fun c3 => ?_) (fun c3 => ?_)
  · rw [if_pos c3] at hf
    refine sp_iload_n (pc := 51) dX8_isIn_51 3 rfl ?_
    exact sp_iretZ (pc := 52) dX8_isIn_52 rfl hf (hQ _)
  · rw [if_neg c3] at hf
    refine sp_iload_n (pc := 25) dX8_isIn_25 3 rfl ?_
    refine sp_if_ne (pc := 26) (tgt := 39) dX8_isIn_26 (by decide) (fun c4 => ?_) (fun c4 => ?_)
    · rw [if_neg c4] at hf
      refine sp_iconst (pc := 39) (v := 1) dX8_isIn_39 (by decide) ?_
      refine sp_goto (pc := 40) (tgt := 44) dX8_isIn_40 (by decide) ?_
      refine sp_istore_n (pc := 44) (lv' := [(3, .int 1), (0, .ref v0), (1, .int v1), (2, .int v2), (4, .int v4)]) dX8_isIn_44 (by decide) rfl ?_
      refine sp_iinc (pc := 45) (v := v4 + 1) (lv' := [(4, .int (v4 + 1)), (3, .int 1), (0, .ref v0), (1, .int v1), (2, .int v2)]) dX8_isIn_45 4 rfl rfl (by decide) rfl ?_
      refine sp_goto (pc := 48) (tgt := 9) dX8_isIn_48 (by decide) ?_
      exact sp_sub [2, 3, 4, 1, 0] rfl (hk9 _ _ _ hf)
    · rw [if_pos c4] at hf
      refine sp_aload_n (pc := 29) dX8_isIn_29 0 rfl ?_
      refine sp_iload (pc := 30) dX8_isIn_30 4 rfl ?_
      refine sp_iload_n (pc := 32) dX8_isIn_32 2 rfl ?_
      obtain ⟨y5, ey5, hf⟩ := ob hf
      obtain ⟨fsy5, hoy5⟩ := o_X8_concerns ey5
      refine sp_callVi (pc := 33) (z := M_X8_concerns) (As := [.int v4, .int v2]) (b := v0) (bc2 := bc) (bs2 := bs) (m_X8_concerns (Q := _) (fun sz => ⟨y5, rfl, ?_⟩) ey5) rfl dX8_isIn_33 hoy5 rfl rfl ck_X8_isIn_58 (Nat.le_of_ble_eq_true rfl) rfl rfl rfl
      refine sp_if_eq (pc := 36) (tgt := 43) dX8_isIn_36 (by decide) (fun c6 => ?_) (fun c6 => ?_)
      · rw [if_pos c6] at hf
        refine sp_iconst (pc := 43) (v := 0) dX8_isIn_43 (by decide) ?_
        refine sp_istore_n (pc := 44) (lv' := [(3, .int 0), (0, .ref v0), (1, .int v1), (2, .int v2), (4, .int v4)]) dX8_isIn_44 (by decide) rfl ?_
        refine sp_iinc (pc := 45) (v := v4 + 1) (lv' := [(4, .int (v4 + 1)), (3, .int 0), (0, .ref v0), (1, .int v1), (2, .int v2)]) dX8_isIn_45 4 rfl rfl (by decide) rfl ?_
        refine sp_goto (pc := 48) (tgt := 9) dX8_isIn_48 (by decide) ?_
        exact sp_sub [2, 3, 4, 1, 0] rfl (hk9 _ _ _ hf)
      · rw [if_neg c6] at hf
        refine sp_iconst (pc := 39) (v := 1) dX8_isIn_39 (by decide) ?_
        refine sp_goto (pc := 40) (tgt := 44) dX8_isIn_40 (by decide) ?_
        refine sp_istore_n (pc := 44) (lv' := [(3, .int 1), (0, .ref v0), (1, .int v1), (2, .int v2), (4, .int v4)]) dX8_isIn_44 (by decide) rfl ?_
        refine sp_iinc (pc := 45) (v := v4 + 1) (lv' := [(4, .int (v4 + 1)), (3, .int 1), (0, .ref v0), (1, .int v1), (2, .int v2)]) dX8_isIn_45 4 rfl rfl (by decide) rfl ?_
        refine sp_goto (pc := 48) (tgt := 9) dX8_isIn_48 (by decide) ?_
        exact sp_sub [2, 3, 4, 1, 0] rfl (hk9 _ _ _ hf)

theorem w_X8_isIn_9 {l : Launch} {X : SCR} {Q : PST} {bc bs : Nat} {res : Int32} {h : HP} (hQ : ∀ sz', Q (.inl (some (.int res))) h sz') {v0 : Nat} {v1 : Int32} {v2 : Int32} : ∀ (n : Nat) {v3 : Int32} {v4 : Int32} {sz : Nat}, b_X8_isIn_9 h v0 v1 v2 n v3 v4 = some res → SP l X M_X8_isIn 9 [(0, .ref v0), (1, .int v1), (2, .int v2), (3, .int v3), (4, .int v4)] [] h sz bc bs Q := by
  intro n
  induction n with
  | zero =>
    intro v3 v4 sz hf
    rw [b_X8_isIn_9] at hf
    cases hf
  | succ n ih =>
    intro v3 v4 sz hf
    rw [b_X8_isIn_9] at hf
    exact wc_X8_isIn_9 hQ (fun v3 v4 sz hf => ih hf) hf

theorem w_X8_isIn_0 {l : Launch} {X : SCR} {Q : PST} {bc bs : Nat} {res : Int32} {h : HP} (hQ : ∀ sz', Q (.inl (some (.int res))) h sz') {v0 : Nat} {v1 : Int32} {v2 : Int32} {sz : Nat} (hf : b_X8_isIn_0 h v0 v1 v2  = some res) : SP l X M_X8_isIn 0 [(0, .ref v0), (1, .int v1), (2, .int v2)] [] h sz bc bs Q := by
  rw [b_X8_isIn_0] at hf
  refine sp_iconst (pc := 0) (v := 0) dX8_isIn_0 (by decide) ?_
  refine sp_istore_n (pc := 1) (lv' := [(3, .int 0), (0, .ref v0), (1, .int v1), (2, .int v2)]) dX8_isIn_1 (by decide) rfl ?_
  refine sp_aload_n (pc := 2) dX8_isIn_2 1 rfl ?_
  refine sp_iload_n (pc := 3) dX8_isIn_3 2 rfl ?_
  obtain ⟨y1, ey1, hf⟩ := ob hf
  obtain ⟨fsy1, hoy1⟩ := o_X8_begin ey1
  refine sp_callVi (pc := 4) (z := M_X8_begin) (As := [.int v1]) (b := v0) (bc2 := bc) (bs2 := bs) (m_X8_begin (Q := _) (fun sz => ⟨y1, rfl, ?_⟩) ey1) rfl dX8_isIn_4 hoy1 rfl rfl ck_X8_isIn_46 (Nat.le_of_ble_eq_true rfl) rfl rfl rfl
  refine sp_istore (pc := 7) (lv' := [(4, .int y1), (3, .int 0), (0, .ref v0), (1, .int v1), (2, .int v2)]) dX8_isIn_7 (by decide) rfl ?_
  exact sp_sub [2, 3, 4, 1, 0] rfl (w_X8_isIn_9 hQ FU hf)

theorem o_X8_isIn {h : HP} {v0 : Nat} {v1 : Int32} {v2 : Int32} {res : Int32} (hf : f_X8_isIn h v0 v1 v2 = some res) : ∃ fs, h v0 = some (.inr (8, fs)) := by
  obtain ⟨u, eu, -⟩ := ob hf
  exact kO_spec eu

theorem m_X8_isIn {l : Launch} {Q : PST} {h : HP} {v0 : Nat} {v1 : Int32} {v2 : Int32} {sz : Nat} {res : Int32} (hQ : ∀ sz', Q (.inl (some (.int res))) h sz') (hf : f_X8_isIn h v0 v1 v2 = some res) : MM l M_X8_isIn [.ref v0, .int v1, .int v2] h sz Q := by
  obtain ⟨u, eu, hf⟩ := ob hf
  exact MM_of wok_X8_isIn (by decide +kernel) (Nat.le_of_ble_eq_true rfl) ((w_X8_isIn_0 hQ hf))

theorem dX8_lookedAt_0 : decode (mB M_X8_lookedAt) 0 = .ok (.iconst 0, 1) := by decide +kernel
theorem dX8_lookedAt_1 : decode (mB M_X8_lookedAt) 1 = .ok (.istore_n 2, 1) := by decide +kernel
theorem dX8_lookedAt_2 : decode (mB M_X8_lookedAt) 2 = .ok (.iconst (-1), 1) := by decide +kernel
theorem dX8_lookedAt_3 : decode (mB M_X8_lookedAt) 3 = .ok (.istore_n 3, 1) := by decide +kernel
theorem dX8_lookedAt_4 : decode (mB M_X8_lookedAt) 4 = .ok (.iload_n 3, 1) := by decide +kernel
theorem dX8_lookedAt_5 : decode (mB M_X8_lookedAt) 5 = .ok (.aload_n 0, 1) := by decide +kernel
theorem dX8_lookedAt_6 : decode (mB M_X8_lookedAt) 6 = .ok (.getfield 7, 3) := by decide +kernel
theorem dX8_lookedAt_9 : decode (mB M_X8_lookedAt) 9 = .ok (.iconst 0, 1) := by decide +kernel
theorem dX8_lookedAt_10 : decode (mB M_X8_lookedAt) 10 = .ok (.iaload, 1) := by decide +kernel
theorem dX8_lookedAt_11 : decode (mB M_X8_lookedAt) 11 = .ok (.if_icmp .ge 36, 3) := by decide +kernel
theorem dX8_lookedAt_14 : decode (mB M_X8_lookedAt) 14 = .ok (.iload_n 2, 1) := by decide +kernel
theorem dX8_lookedAt_15 : decode (mB M_X8_lookedAt) 15 = .ok (.aload_n 0, 1) := by decide +kernel
theorem dX8_lookedAt_16 : decode (mB M_X8_lookedAt) 16 = .ok (.iload_n 3, 1) := by decide +kernel
theorem dX8_lookedAt_17 : decode (mB M_X8_lookedAt) 17 = .ok (.invokevirtual 203, 3) := by decide +kernel
theorem dX8_lookedAt_20 : decode (mB M_X8_lookedAt) 20 = .ok (.ifCond .le 7, 3) := by decide +kernel
theorem dX8_lookedAt_23 : decode (mB M_X8_lookedAt) 23 = .ok (.iconst 1, 1) := by decide +kernel
theorem dX8_lookedAt_24 : decode (mB M_X8_lookedAt) 24 = .ok (.goto 4, 3) := by decide +kernel
theorem dX8_lookedAt_27 : decode (mB M_X8_lookedAt) 27 = .ok (.iconst 0, 1) := by decide +kernel
theorem dX8_lookedAt_28 : decode (mB M_X8_lookedAt) 28 = .ok (.iadd, 1) := by decide +kernel
theorem dX8_lookedAt_29 : decode (mB M_X8_lookedAt) 29 = .ok (.istore_n 2, 1) := by decide +kernel
theorem dX8_lookedAt_30 : decode (mB M_X8_lookedAt) 30 = .ok (.aload_n 0, 1) := by decide +kernel
theorem dX8_lookedAt_31 : decode (mB M_X8_lookedAt) 31 = .ok (.iload_n 3, 1) := by decide +kernel
theorem dX8_lookedAt_32 : decode (mB M_X8_lookedAt) 32 = .ok (.iload_n 1, 1) := by decide +kernel
theorem dX8_lookedAt_33 : decode (mB M_X8_lookedAt) 33 = .ok (.invokevirtual 215, 3) := by decide +kernel
theorem dX8_lookedAt_36 : decode (mB M_X8_lookedAt) 36 = .ok (.ifCond .eq 5, 3) := by decide +kernel
theorem dX8_lookedAt_39 : decode (mB M_X8_lookedAt) 39 = .ok (.iload_n 2, 1) := by decide +kernel
theorem dX8_lookedAt_40 : decode (mB M_X8_lookedAt) 40 = .ok (.ireturn, 1) := by decide +kernel
theorem dX8_lookedAt_41 : decode (mB M_X8_lookedAt) 41 = .ok (.iinc 3 1, 3) := by decide +kernel
theorem dX8_lookedAt_44 : decode (mB M_X8_lookedAt) 44 = .ok (.goto (-40), 3) := by decide +kernel
theorem dX8_lookedAt_47 : decode (mB M_X8_lookedAt) 47 = .ok (.iload_n 2, 1) := by decide +kernel
theorem dX8_lookedAt_48 : decode (mB M_X8_lookedAt) 48 = .ok (.ireturn, 1) := by decide +kernel
def b_X8_lookedAt_28 (h : HP) (v0 : Nat) (v1 : Int32) (k4 : Int32 → Int32 → Option (Int32)) (v3 : Int32) (s0 : Int32) (s1 : Int32) : Option (Int32) :=
  (f_X8_isIn h v0 v3 v1).bind fun y1 => if y1 = 0 then k4 (s0 + s1) (v3 + 1) else some (s0 + s1)
def c_X8_lookedAt_4 (h : HP) (v0 : Nat) (v1 : Int32) (k4 : Int32 → Int32 → Option (Int32)) (v2 : Int32) (v3 : Int32) : Option (Int32) :=
  (gR 8 1 h v0).bind fun x1 => (aI h x1 0).bind fun x2 => if x2 ≤ v3 then some (v2) else (f_X8_manyIn h v0 v3).bind fun y4 => if y4 ≤ 0 then b_X8_lookedAt_28 h v0 v1 k4 v3 v2 0 else b_X8_lookedAt_28 h v0 v1 k4 v3 v2 1
def b_X8_lookedAt_4 (h : HP) (v0 : Nat) (v1 : Int32) : Nat → Int32 → Int32 → Option (Int32)
  | 0, _, _ => none
  | n + 1, v2, v3 => c_X8_lookedAt_4 h v0 v1 (b_X8_lookedAt_4 h v0 v1 n) v2 v3
def b_X8_lookedAt_0 (h : HP) (v0 : Nat) (v1 : Int32) : Option (Int32) :=
  b_X8_lookedAt_4 h v0 v1 FU 0 ((-1))
def f_X8_lookedAt (h : HP) (v0 : Nat) (v1 : Int32) : Option (Int32) := (kO 8 h v0).bind fun _ => b_X8_lookedAt_0 h v0 v1
theorem w_X8_lookedAt_28 {l : Launch} {X : SCR} {Q : PST} {bc bs : Nat} {res : Int32} {h : HP} (hQ : ∀ sz', Q (.inl (some (.int res))) h sz') {v0 : Nat} {v1 : Int32} {k4 : Int32 → Int32 → Option (Int32)} (hk4 : ∀ (v2 : Int32) (v3 : Int32) (sz : Nat), k4 v2 v3 = some res → SP l X M_X8_lookedAt 4 [(0, .ref v0), (1, .int v1), (2, .int v2), (3, .int v3)] [] h sz bc bs Q) {v3 : Int32} {s0 : Int32} {s1 : Int32} {sz : Nat} (hf : b_X8_lookedAt_28 h v0 v1 k4 v3 s0 s1 = some res) : SP l X M_X8_lookedAt 28 [(0, .ref v0), (1, .int v1), (3, .int v3)] [.int s1, .int s0] h sz bc bs Q := by
  rw [b_X8_lookedAt_28] at hf
  refine sp_iadd (pc := 28) dX8_lookedAt_28 ?_
  refine sp_istore_n (pc := 29) (lv' := [(2, .int (s0 + s1)), (0, .ref v0), (1, .int v1), (3, .int v3)]) dX8_lookedAt_29 (by decide) rfl ?_
  refine sp_aload_n (pc := 30) dX8_lookedAt_30 1 rfl ?_
  refine sp_iload_n (pc := 31) dX8_lookedAt_31 3 rfl ?_
  refine sp_iload_n (pc := 32) dX8_lookedAt_32 2 rfl ?_
  obtain ⟨y1, ey1, hf⟩ := ob hf
  obtain ⟨fsy1, hoy1⟩ := o_X8_isIn ey1
  refine sp_callVi (pc := 33) (z := M_X8_isIn) (As := [.int v3, .int v1]) (b := v0) (bc2 := bc) (bs2 := bs) (m_X8_isIn (Q := _) (fun sz => ⟨y1, rfl, ?_⟩) ey1) rfl dX8_lookedAt_33 hoy1 rfl rfl ck_X8_lookedAt_215 (Nat.le_of_ble_eq_true rfl) rfl rfl rfl
  refine sp_if_eq (pc := 36) (tgt := 41) dX8_lookedAt_36 (by decide) (fun c2 => ?_) (fun c2 => ?_)
  · rw [if_pos c2] at hf
    refine sp_iinc (pc := 41) (v := v3 + 1) (lv' := [(3, .int (v3 + 1)), (2, .int (s0 + s1)), (0, .ref v0), (1, .int v1)]) dX8_lookedAt_41 3 rfl rfl (by decide) rfl ?_
    refine sp_goto (pc := 44) (tgt := 4) dX8_lookedAt_44 (by decide) ?_
    exact sp_sub [2, 3, 1, 0] rfl (hk4 _ _ _ hf)
  · rw [if_neg c2] at hf
    refine sp_iload_n (pc := 39) dX8_lookedAt_39 0 rfl ?_
    obtain rfl := Option.some.inj hf
    exact sp_ireturn (pc := 40) dX8_lookedAt_40 rfl rfl (hQ _)

theorem wc_X8_lookedAt_4 {l : Launch} {X : SCR} {Q : PST} {bc bs : Nat} {res : Int32} {h : HP} (hQ : ∀ sz', Q (.inl (some (.int res))) h sz') {v0 : Nat} {v1 : Int32} {k4 : Int32 → Int32 → Option (Int32)} (hk4 : ∀ (v2 : Int32) (v3 : Int32) (sz : Nat), k4 v2 v3 = some res → SP l X M_X8_lookedAt 4 [(0, .ref v0), (1, .int v1), (2, .int v2), (3, .int v3)] [] h sz bc bs Q) {v2 : Int32} {v3 : Int32} {sz : Nat} (hf : c_X8_lookedAt_4 h v0 v1 k4 v2 v3 = some res) : SP l X M_X8_lookedAt 4 [(0, .ref v0), (1, .int v1), (2, .int v2), (3, .int v3)] [] h sz bc bs Q := by
  rw [c_X8_lookedAt_4] at hf
  refine sp_iload_n (pc := 4) dX8_lookedAt_4 3 rfl ?_
  refine sp_aload_n (pc := 5) dX8_lookedAt_5 0 rfl ?_
  obtain ⟨x1, ex1, hf⟩ := ob hf
  refine sp_gR (pc := 6) fl_RX8_7 dX8_lookedAt_6 ex1 ?_
  refine sp_iconst (pc := 9) (v := 0) dX8_lookedAt_9 (by decide) ?_
  obtain ⟨x2, ex2, hf⟩ := ob hf
  refine sp_aI (pc := 10) dX8_lookedAt_10 ex2 ?_
  refine sp_icmp_ge (pc := 11) (tgt := 47) dX8_lookedAt_11 (by decide) (fun c3 => ?_) (fun c3 => ?_)
  · rw [if_pos c3] at hf
    refine sp_iload_n (pc := 47) dX8_lookedAt_47 2 rfl ?_
    obtain rfl := Option.some.inj hf
    exact sp_ireturn (pc := 48) dX8_lookedAt_48 rfl rfl (hQ _)
  · rw [if_neg c3] at hf
    refine sp_iload_n (pc := 14) dX8_lookedAt_14 2 rfl ?_
    refine sp_aload_n (pc := 15) dX8_lookedAt_15 0 rfl ?_
    refine sp_iload_n (pc := 16) dX8_lookedAt_16 3 rfl ?_
    obtain ⟨y4, ey4, hf⟩ := ob hf
    obtain ⟨fsy4, hoy4⟩ := o_X8_manyIn ey4
    refine sp_callVi (pc := 17) (z := M_X8_manyIn) (As := [.int v3]) (b := v0) (bc2 := bc) (bs2 := bs) (m_X8_manyIn (Q := _) (fun sz => ⟨y4, rfl, ?_⟩) ey4) rfl dX8_lookedAt_17 hoy4 rfl rfl ck_X8_lookedAt_203 (Nat.le_of_ble_eq_true rfl) rfl rfl rfl
    refine sp_if_le (pc := 20) (tgt := 27) dX8_lookedAt_20 (by decide) (fun c5 => ?_) (fun c5 => ?_)
    · rw [if_pos c5] at hf
      refine sp_iconst (pc := 27) (v := 0) dX8_lookedAt_27 (by decide) ?_
      exact sp_sub [0, 1, 3] rfl (w_X8_lookedAt_28 hQ hk4 hf)
    · rw [if_neg c5] at hf
      refine sp_iconst (pc := 23) (v := 1) dX8_lookedAt_23 (by decide) ?_
      refine sp_goto (pc := 24) (tgt := 28) dX8_lookedAt_24 (by decide) ?_
      exact sp_sub [0, 1, 3] rfl (w_X8_lookedAt_28 hQ hk4 hf)

theorem w_X8_lookedAt_4 {l : Launch} {X : SCR} {Q : PST} {bc bs : Nat} {res : Int32} {h : HP} (hQ : ∀ sz', Q (.inl (some (.int res))) h sz') {v0 : Nat} {v1 : Int32} : ∀ (n : Nat) {v2 : Int32} {v3 : Int32} {sz : Nat}, b_X8_lookedAt_4 h v0 v1 n v2 v3 = some res → SP l X M_X8_lookedAt 4 [(0, .ref v0), (1, .int v1), (2, .int v2), (3, .int v3)] [] h sz bc bs Q := by
  intro n
  induction n with
  | zero =>
    intro v2 v3 sz hf
    rw [b_X8_lookedAt_4] at hf
    cases hf
  | succ n ih =>
    intro v2 v3 sz hf
    rw [b_X8_lookedAt_4] at hf
    exact wc_X8_lookedAt_4 hQ (fun v2 v3 sz hf => ih hf) hf

theorem w_X8_lookedAt_0 {l : Launch} {X : SCR} {Q : PST} {bc bs : Nat} {res : Int32} {h : HP} (hQ : ∀ sz', Q (.inl (some (.int res))) h sz') {v0 : Nat} {v1 : Int32} {sz : Nat} (hf : b_X8_lookedAt_0 h v0 v1  = some res) : SP l X M_X8_lookedAt 0 [(0, .ref v0), (1, .int v1)] [] h sz bc bs Q := by
  rw [b_X8_lookedAt_0] at hf
  refine sp_iconst (pc := 0) (v := 0) dX8_lookedAt_0 (by decide) ?_
  refine sp_istore_n (pc := 1) (lv' := [(2, .int 0), (0, .ref v0), (1, .int v1)]) dX8_lookedAt_1 (by decide) rfl ?_
  refine sp_iconst (pc := 2) (v := (-1)) dX8_lookedAt_2 (by decide) ?_
  refine sp_istore_n (pc := 3) (lv' := [(3, .int (-1)), (2, .int 0), (0, .ref v0), (1, .int v1)]) dX8_lookedAt_3 (by decide) rfl ?_
  exact sp_sub [2, 3, 1, 0] rfl (w_X8_lookedAt_4 hQ FU hf)

theorem o_X8_lookedAt {h : HP} {v0 : Nat} {v1 : Int32} {res : Int32} (hf : f_X8_lookedAt h v0 v1 = some res) : ∃ fs, h v0 = some (.inr (8, fs)) := by
  obtain ⟨u, eu, -⟩ := ob hf
  exact kO_spec eu

theorem m_X8_lookedAt {l : Launch} {Q : PST} {h : HP} {v0 : Nat} {v1 : Int32} {sz : Nat} {res : Int32} (hQ : ∀ sz', Q (.inl (some (.int res))) h sz') (hf : f_X8_lookedAt h v0 v1 = some res) : MM l M_X8_lookedAt [.ref v0, .int v1] h sz Q := by
  obtain ⟨u, eu, hf⟩ := ob hf
  exact MM_of wok_X8_lookedAt (by decide +kernel) (Nat.le_of_ble_eq_true rfl) ((w_X8_lookedAt_0 hQ hf))

