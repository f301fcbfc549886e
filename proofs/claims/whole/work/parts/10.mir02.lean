theorem dX7_load_0 : decode (mB M_X7_load) 0 = .ok (.aload_n 0, 1) := by decide +kernel
theorem dX7_load_1 : decode (mB M_X7_load) 1 = .ok (.getfield 15, 3) := by decide +kernel
theorem dX7_load_4 : decode (mB M_X7_load) 4 = .ok (.invokevirtual 82, 3) := by decide +kernel
theorem dX7_load_7 : decode (mB M_X7_load) 7 = .ok (.iconst (-1), 1) := by decide +kernel
theorem dX7_load_8 : decode (mB M_X7_load) 8 = .ok (.if_icmp .eq 13, 3) := by decide +kernel
theorem dX7_load_11 : decode (mB M_X7_load) 11 = .ok (.new 66, 3) := by decide +kernel
theorem dX7_load_14 : decode (mB M_X7_load) 14 = .ok (.dup, 1) := by decide +kernel
theorem dX7_load_15 : decode (mB M_X7_load) 15 = .ok (.ldc 85, 2) := by decide +kernel
theorem dX7_load_17 : decode (mB M_X7_load) 17 = .ok (.invokespecial 70, 3) := by decide +kernel
theorem dX7_load_20 : decode (mB M_X7_load) 20 = .ok (.athrow, 1) := by decide +kernel
theorem dX7_load_21 : decode (mB M_X7_load) 21 = .ok (.aload_n 0, 1) := by decide +kernel
theorem dX7_load_22 : decode (mB M_X7_load) 22 = .ok (.getfield 24, 3) := by decide +kernel
theorem dX7_load_25 : decode (mB M_X7_load) 25 = .ok (.invokevirtual 87, 3) := by decide +kernel
theorem dX7_load_28 : decode (mB M_X7_load) 28 = .ok (.aload_n 0, 1) := by decide +kernel
theorem dX7_load_29 : decode (mB M_X7_load) 29 = .ok (.getfield 36, 3) := by decide +kernel
theorem dX7_load_32 : decode (mB M_X7_load) 32 = .ok (.invokevirtual 88, 3) := by decide +kernel
theorem dX7_load_35 : decode (mB M_X7_load) 35 = .ok (.iconst 0, 1) := by decide +kernel
theorem dX7_load_36 : decode (mB M_X7_load) 36 = .ok (.istore_n 1, 1) := by decide +kernel
theorem dX7_load_37 : decode (mB M_X7_load) 37 = .ok (.iload_n 1, 1) := by decide +kernel
theorem dX7_load_38 : decode (mB M_X7_load) 38 = .ok (.iconst 2, 1) := by decide +kernel
theorem dX7_load_39 : decode (mB M_X7_load) 39 = .ok (.if_icmp .ge 16, 3) := by decide +kernel
theorem dX7_load_42 : decode (mB M_X7_load) 42 = .ok (.aload_n 0, 1) := by decide +kernel
theorem dX7_load_43 : decode (mB M_X7_load) 43 = .ok (.getfield 44, 3) := by decide +kernel
theorem dX7_load_46 : decode (mB M_X7_load) 46 = .ok (.iload_n 1, 1) := by decide +kernel
theorem dX7_load_47 : decode (mB M_X7_load) 47 = .ok (.iconst 0, 1) := by decide +kernel
theorem dX7_load_48 : decode (mB M_X7_load) 48 = .ok (.bastore, 1) := by decide +kernel
theorem dX7_load_49 : decode (mB M_X7_load) 49 = .ok (.iinc 1 1, 3) := by decide +kernel
theorem dX7_load_52 : decode (mB M_X7_load) 52 = .ok (.goto (-15), 3) := by decide +kernel
theorem dX7_load_55 : decode (mB M_X7_load) 55 = .ok (.iconst 0, 1) := by decide +kernel
theorem dX7_load_56 : decode (mB M_X7_load) 56 = .ok (.istore_n 1, 1) := by decide +kernel
theorem dX7_load_57 : decode (mB M_X7_load) 57 = .ok (.iconst 1, 1) := by decide +kernel
theorem dX7_load_58 : decode (mB M_X7_load) 58 = .ok (.istore_n 2, 1) := by decide +kernel
theorem dX7_load_59 : decode (mB M_X7_load) 59 = .ok (.iload_n 2, 1) := by decide +kernel
theorem dX7_load_60 : decode (mB M_X7_load) 60 = .ok (.aload_n 0, 1) := by decide +kernel
theorem dX7_load_61 : decode (mB M_X7_load) 61 = .ok (.getfield 15, 3) := by decide +kernel
theorem dX7_load_64 : decode (mB M_X7_load) 64 = .ok (.invokevirtual 75, 3) := by decide +kernel
theorem dX7_load_67 : decode (mB M_X7_load) 67 = .ok (.if_icmp .ge 31, 3) := by decide +kernel
theorem dX7_load_70 : decode (mB M_X7_load) 70 = .ok (.aload_n 0, 1) := by decide +kernel
theorem dX7_load_71 : decode (mB M_X7_load) 71 = .ok (.getfield 15, 3) := by decide +kernel
theorem dX7_load_74 : decode (mB M_X7_load) 74 = .ok (.iload_n 2, 1) := by decide +kernel
theorem dX7_load_75 : decode (mB M_X7_load) 75 = .ok (.invokevirtual 91, 3) := by decide +kernel
theorem dX7_load_78 : decode (mB M_X7_load) 78 = .ok (.ifCond .ne 14, 3) := by decide +kernel
theorem dX7_load_81 : decode (mB M_X7_load) 81 = .ok (.aload_n 0, 1) := by decide +kernel
theorem dX7_load_82 : decode (mB M_X7_load) 82 = .ok (.iload_n 2, 1) := by decide +kernel
theorem dX7_load_83 : decode (mB M_X7_load) 83 = .ok (.invokevirtual 95, 3) := by decide +kernel
theorem dX7_load_86 : decode (mB M_X7_load) 86 = .ok (.ifCond .ne 6, 3) := by decide +kernel
theorem dX7_load_89 : decode (mB M_X7_load) 89 = .ok (.iinc 1 1, 3) := by decide +kernel
theorem dX7_load_92 : decode (mB M_X7_load) 92 = .ok (.iinc 2 1, 3) := by decide +kernel
theorem dX7_load_95 : decode (mB M_X7_load) 95 = .ok (.goto (-36), 3) := by decide +kernel
theorem dX7_load_98 : decode (mB M_X7_load) 98 = .ok (.iload_n 1, 1) := by decide +kernel
theorem dX7_load_99 : decode (mB M_X7_load) 99 = .ok (.ireturn, 1) := by decide +kernel
def c_X7_load_59 (v0 : Nat) (k59 : HP → Int32 → Int32 → Option ((Int32 ⊕ String) × HP)) (h : HP) (v1 : Int32) (v2 : Int32) : Option ((Int32 ⊕ String) × HP) :=
  (gR 7 0 h v0).bind fun x1 => (f_X4_length h x1).bind fun y2 => if y2 ≤ v2 then some (.inl v1, h) else (gR 7 0 h v0).bind fun x4 => (f_X4_isDigit h x4 v2).bind fun y5 => if y5 = 0 then (f_X7_doTextCommand h v0 v2).bind fun y7 => if y7.1 = 0 then k59 y7.2 (v1 + 1) (v2 + 1) else k59 y7.2 v1 (v2 + 1) else k59 h v1 (v2 + 1)
def b_X7_load_59 (v0 : Nat) : Nat → HP → Int32 → Int32 → Option ((Int32 ⊕ String) × HP)
  | 0, _, _, _ => none
  | n + 1, h, v1, v2 => c_X7_load_59 v0 (b_X7_load_59 v0 n) h v1 v2
def c_X7_load_37 (v0 : Nat) (k37 : HP → Int32 → Option ((Int32 ⊕ String) × HP)) (h : HP) (v1 : Int32) : Option ((Int32 ⊕ String) × HP) :=
  if 2 ≤ v1 then b_X7_load_59 v0 FU h 0 1 else (gR 7 5 h v0).bind fun x2 => (wZ h x2 v1 0).bind fun h3 => k37 h3 (v1 + 1)
def b_X7_load_37 (v0 : Nat) : Nat → HP → Int32 → Option ((Int32 ⊕ String) × HP)
  | 0, _, _ => none
  | n + 1, h, v1 => c_X7_load_37 v0 (b_X7_load_37 v0 n) h v1
def b_X7_load_0 (v0 : Nat) (h : HP) : Option ((Int32 ⊕ String) × HP) :=
  (gR 7 0 h v0).bind fun x1 => (f_X4_firstError h x1).bind fun y2 => if y2 = (-1) then (gR 7 1 h v0).bind fun x4 => (f_X3_empty h x4).bind fun y5 => (gR 7 3 y5 v0).bind fun x6 => (f_X1_forgetAll y5 x6).bind fun y7 => b_X7_load_37 v0 FU y7 0 else some (.inr "java/lang/IllegalStateException", h)
def f_X7_load (h : HP) (v0 : Nat) : Option ((Int32 ⊕ String) × HP) := (kO 7 h v0).bind fun _ => b_X7_load_0 v0 h
theorem wc_X7_load_59 {l : Launch} {X : SCR} {Q : PST} {bc bs : Nat} {res : (Int32 ⊕ String) × HP} (hQ : ∀ sz', Q (outT res.1) res.2 sz') (hlt : l.stackTraces = false) (hX2 : X.2 = some []) (hbc : 1 ≤ bc) (hbs : 6 ≤ bs) {v0 : Nat} {k59 : HP → Int32 → Int32 → Option ((Int32 ⊕ String) × HP)} (hk59 : ∀ (h : HP) (v1 : Int32) (v2 : Int32) (sz : Nat), k59 h v1 v2 = some res → SP l X M_X7_load 59 [(0, .ref v0), (1, .int v1), (2, .int v2)] [] h sz bc bs Q) {h : HP} {v1 : Int32} {v2 : Int32} {sz : Nat} (hf : c_X7_load_59 v0 k59 h v1 v2 = some res) : SP l X M_X7_load 59 [(0, .ref v0), (1, .int v1), (2, .int v2)] [] h sz bc bs Q := by
  rw [c_X7_load_59] at hf
  refine sp_iload_n (pc := 59) dX7_load_59 2 rfl ?_
  refine sp_aload_n (pc := 60) dX7_load_60 0 rfl ?_
  obtain ⟨x1, ex1, hf⟩ := ob hf
  refine sp_gR (pc := 61) fl_RX7_15 dX7_load_61 ex1 ?_
  obtain ⟨y2, ey2, hf⟩ := ob hf
  obtain ⟨fsy2, hoy2⟩ := o_X4_length ey2
  refine sp_callVi (pc := 64) (z := M_X4_length) (As := []) (b := x1) (bc2 := bc) (bs2 := bs) (m_X4_length (Q := _) (fun sz => ⟨y2, rfl, ?_⟩) ey2) rfl dX7_load_64 hoy2 rfl rfl ck_X7_load_75 (Nat.le_of_ble_eq_true rfl) rfl rfl rfl
  refine sp_icmp_ge (pc := 67) (tgt := 98) dX7_load_67 (by decide) (fun c3 => ?_) (fun c3 => ?_)
  · rw [if_pos c3] at hf
    refine sp_iload_n (pc := 98) dX7_load_98 1 rfl ?_
    obtain rfl := Option.some.inj hf
    exact sp_ireturn (pc := 99) dX7_load_99 rfl rfl (hQ _)
  · rw [if_neg c3] at hf
    refine sp_aload_n (pc := 70) dX7_load_70 0 rfl ?_
    obtain ⟨x4, ex4, hf⟩ := ob hf
    refine sp_gR (pc := 71) fl_RX7_15 dX7_load_71 ex4 ?_
    refine sp_iload_n (pc := 74) dX7_load_74 2 rfl ?_
    obtain ⟨y5, ey5, hf⟩ := ob hf
    obtain ⟨fsy5, hoy5⟩ := o_X4_isDigit ey5
    refine sp_callVi (pc := 75) (z := M_X4_isDigit) (As := [.int v2]) (b := x4) (bc2 := bc) (bs2 := bs) (m_X4_isDigit (Q := _) (fun sz => ⟨y5, rfl, ?_⟩) ey5) rfl dX7_load_75 hoy5 rfl rfl ck_X7_load_91 (Nat.le_of_ble_eq_true rfl) rfl rfl rfl
    refine sp_if_ne (pc := 78) (tgt := 92) dX7_load_78 (by decide) (fun c6 => ?_) (fun c6 => ?_)
    · rw [if_neg c6] at hf
      refine sp_iinc (pc := 92) (v := v2 + 1) (lv' := [(2, .int (v2 + 1)), (0, .ref v0), (1, .int v1)]) dX7_load_92 2 rfl rfl (by decide) rfl ?_
      refine sp_goto (pc := 95) (tgt := 59) dX7_load_95 (by decide) ?_
      exact sp_sub [1, 2, 0] rfl (hk59 _ _ _ _ hf)
    · rw [if_pos c6] at hf
      refine sp_aload_n (pc := 81) dX7_load_81 0 rfl ?_
      refine sp_iload_n (pc := 82) dX7_load_82 2 rfl ?_
      obtain ⟨y7, ey7, hf⟩ := ob hf
      obtain ⟨fsy7, hoy7⟩ := o_X7_doTextCommand ey7
      refine sp_callVi (pc := 83) (z := M_X7_doTextCommand) (As := [.int v2]) (b := v0) (bc2 := bc) (bs2 := bs) (m_X7_doTextCommand (Q := _) (fun sz => ⟨y7.1, rfl, ?_⟩) ey7) rfl dX7_load_83 hoy7 rfl rfl ck_X7_load_95 (Nat.le_of_ble_eq_true rfl) rfl rfl rfl
      refine sp_if_ne (pc := 86) (tgt := 92) dX7_load_86 (by decide) (fun c8 => ?_) (fun c8 => ?_)
      · rw [if_neg c8] at hf
        refine sp_iinc (pc := 92) (v := v2 + 1) (lv' := [(2, .int (v2 + 1)), (0, .ref v0), (1, .int v1)]) dX7_load_92 2 rfl rfl (by decide) rfl ?_
        refine sp_goto (pc := 95) (tgt := 59) dX7_load_95 (by decide) ?_
        exact sp_sub [1, 2, 0] rfl (hk59 _ _ _ _ hf)
      · rw [if_pos c8] at hf
        refine sp_iinc (pc := 89) (v := v1 + 1) (lv' := [(1, .int (v1 + 1)), (0, .ref v0), (2, .int v2)]) dX7_load_89 1 rfl rfl (by decide) rfl ?_
        refine sp_iinc (pc := 92) (v := v2 + 1) (lv' := [(2, .int (v2 + 1)), (1, .int (v1 + 1)), (0, .ref v0)]) dX7_load_92 2 rfl rfl (by decide) rfl ?_
        refine sp_goto (pc := 95) (tgt := 59) dX7_load_95 (by decide) ?_
        exact sp_sub [2, 1, 0] rfl (hk59 _ _ _ _ hf)

theorem w_X7_load_59 {l : Launch} {X : SCR} {Q : PST} {bc bs : Nat} {res : (Int32 ⊕ String) × HP} (hQ : ∀ sz', Q (outT res.1) res.2 sz') (hlt : l.stackTraces = false) (hX2 : X.2 = some []) (hbc : 1 ≤ bc) (hbs : 6 ≤ bs) {v0 : Nat} : ∀ (n : Nat) {h : HP} {v1 : Int32} {v2 : Int32} {sz : Nat}, b_X7_load_59 v0 n h v1 v2 = some res → SP l X M_X7_load 59 [(0, .ref v0), (1, .int v1), (2, .int v2)] [] h sz bc bs Q := by
  intro n
  induction n with
  | zero =>
    intro h v1 v2 sz hf
    rw [b_X7_load_59] at hf
    cases hf
  | succ n ih =>
    intro h v1 v2 sz hf
    rw [b_X7_load_59] at hf
    exact wc_X7_load_59 hQ hlt hX2 hbc hbs (fun h v1 v2 sz hf => ih hf) hf

theorem wc_X7_load_37 {l : Launch} {X : SCR} {Q : PST} {bc bs : Nat} {res : (Int32 ⊕ String) × HP} (hQ : ∀ sz', Q (outT res.1) res.2 sz') (hlt : l.stackTraces = false) (hX2 : X.2 = some []) (hbc : 1 ≤ bc) (hbs : 6 ≤ bs) {v0 : Nat} {k37 : HP → Int32 → Option ((Int32 ⊕ String) × HP)} (hk37 : ∀ (h : HP) (v1 : Int32) (sz : Nat), k37 h v1 = some res → SP l X M_X7_load 37 [(0, .ref v0), (1, .int v1)] [] h sz bc bs Q) {h : HP} {v1 : Int32} {sz : Nat} (hf : c_X7_load_37 v0 k37 h v1 = some res) : SP l X M_X7_load 37 [(0, .ref v0), (1, .int v1)] [] h sz bc bs Q := by
  rw [c_X7_load_37] at hf
  refine sp_iload_n (pc := 37) dX7_load_37 1 rfl ?_
  refine sp_iconst (pc := 38) (v := 2) dX7_load_38 (by decide) ?_
  refine sp_icmp_ge (pc := 39) (tgt := 55) dX7_load_39 (by decide) (fun c1 => ?_) (fun c1 => ?_)
  · rw [if_pos c1] at hf
    refine sp_iconst (pc := 55) (v := 0) dX7_load_55 (by decide) ?_
    refine sp_istore_n (pc := 56) (lv' := [(1, .int 0), (0, .ref v0)]) dX7_load_56 (by decide) rfl ?_
    refine sp_iconst (pc := 57) (v := 1) dX7_load_57 (by decide) ?_
    refine sp_istore_n (pc := 58) (lv' := [(2, .int 1), (1, .int 0), (0, .ref v0)]) dX7_load_58 (by decide) rfl ?_
    exact sp_sub [2, 1, 0] rfl (w_X7_load_59 hQ hlt hX2 hbc hbs FU hf)
  · rw [if_neg c1] at hf
    refine sp_aload_n (pc := 42) dX7_load_42 0 rfl ?_
    obtain ⟨x2, ex2, hf⟩ := ob hf
    refine sp_gR (pc := 43) fl_RX7_44 dX7_load_43 ex2 ?_
    refine sp_iload_n (pc := 46) dX7_load_46 1 rfl ?_
    refine sp_iconst (pc := 47) (v := 0) dX7_load_47 (by decide) ?_
    obtain ⟨h3, eh3, hf⟩ := ob hf
    refine sp_wZ (pc := 48) dX7_load_48 eh3 (fun sz => ?_)
    refine sp_iinc (pc := 49) (v := v1 + 1) (lv' := [(1, .int (v1 + 1)), (0, .ref v0)]) dX7_load_49 1 rfl rfl (by decide) rfl ?_
    refine sp_goto (pc := 52) (tgt := 37) dX7_load_52 (by decide) ?_
    exact sp_sub [1, 0] rfl (hk37 _ _ _ hf)

theorem w_X7_load_37 {l : Launch} {X : SCR} {Q : PST} {bc bs : Nat} {res : (Int32 ⊕ String) × HP} (hQ : ∀ sz', Q (outT res.1) res.2 sz') (hlt : l.stackTraces = false) (hX2 : X.2 = some []) (hbc : 1 ≤ bc) (hbs : 6 ≤ bs) {v0 : Nat} : ∀ (n : Nat) {h : HP} {v1 : Int32} {sz : Nat}, b_X7_load_37 v0 n h v1 = some res → SP l X M_X7_load 37 [(0, .ref v0), (1, .int v1)] [] h sz bc bs Q := by
  intro n
  induction n with
  | zero =>
    intro h v1 sz hf
    rw [b_X7_load_37] at hf
    cases hf
  | succ n ih =>
    intro h v1 sz hf
    rw [b_X7_load_37] at hf
    exact wc_X7_load_37 hQ hlt hX2 hbc hbs (fun h v1 sz hf => ih hf) hf

theorem w_X7_load_0 {l : Launch} {X : SCR} {Q : PST} {bc bs : Nat} {res : (Int32 ⊕ String) × HP} {h : HP} (hQ : ∀ sz', Q (outT res.1) res.2 sz') (hlt : l.stackTraces = false) (hX2 : X.2 = some []) (hbc : 1 ≤ bc) (hbs : 6 ≤ bs) {v0 : Nat} {sz : Nat} (hf : b_X7_load_0 v0 h  = some res) : SP l X M_X7_load 0 [(0, .ref v0)] [] h sz bc bs Q := by
  rw [b_X7_load_0] at hf
  refine sp_aload_n (pc := 0) dX7_load_0 0 rfl ?_
  obtain ⟨x1, ex1, hf⟩ := ob hf
  refine sp_gR (pc := 1) fl_RX7_15 dX7_load_1 ex1 ?_
  obtain ⟨y2, ey2, hf⟩ := ob hf
  obtain ⟨fsy2, hoy2⟩ := o_X4_firstError ey2
  refine sp_callVi (pc := 4) (z := M_X4_firstError) (As := []) (b := x1) (bc2 := bc) (bs2 := bs) (m_X4_firstError (Q := _) (fun sz => ⟨y2, rfl, ?_⟩) ey2) rfl dX7_load_4 hoy2 rfl rfl ck_X7_load_82 (Nat.le_of_ble_eq_true rfl) rfl rfl rfl
  refine sp_iconst (pc := 7) (v := (-1)) dX7_load_7 (by decide) ?_
  refine sp_icmp_eq (pc := 8) (tgt := 21) dX7_load_8 (by decide) (fun c3 => ?_) (fun c3 => ?_)
  · rw [if_pos c3] at hf
    refine sp_aload_n (pc := 21) dX7_load_21 0 rfl ?_
    obtain ⟨x4, ex4, hf⟩ := ob hf
    refine sp_gR (pc := 22) fl_RX7_24 dX7_load_22 ex4 ?_
    obtain ⟨y5, ey5, hf⟩ := ob hf
    obtain ⟨fsy5, hoy5⟩ := o_X3_empty ey5
    refine sp_callVv (pc := 25) (z := M_X3_empty) (As := []) (b := x4) (bc2 := bc) (bs2 := bs) (m_X3_empty (Q := _) (fun sz => ⟨(), rfl, ?_⟩) ey5) rfl dX7_load_25 hoy5 rfl rfl ck_X7_load_87 (Nat.le_of_ble_eq_true rfl) rfl rfl rfl
    refine sp_aload_n (pc := 28) dX7_load_28 0 rfl ?_
    obtain ⟨x6, ex6, hf⟩ := ob hf
    refine sp_gR (pc := 29) fl_RX7_36 dX7_load_29 ex6 ?_
    obtain ⟨y7, ey7, hf⟩ := ob hf
    obtain ⟨fsy7, hoy7⟩ := o_X1_forgetAll ey7
    refine sp_callVv (pc := 32) (z := M_X1_forgetAll) (As := []) (b := x6) (bc2 := bc) (bs2 := bs) (m_X1_forgetAll (Q := _) (fun sz => ⟨(), rfl, ?_⟩) ey7) rfl dX7_load_32 hoy7 rfl rfl ck_X7_load_88 (Nat.le_of_ble_eq_true rfl) rfl rfl rfl
    refine sp_iconst (pc := 35) (v := 0) dX7_load_35 (by decide) ?_
    refine sp_istore_n (pc := 36) (lv' := [(1, .int 0), (0, .ref v0)]) dX7_load_36 (by decide) rfl ?_
    exact sp_sub [1, 0] rfl (w_X7_load_37 hQ hlt hX2 hbc hbs FU hf)
  · rw [if_neg c3] at hf
    obtain rfl := Option.some.inj hf
    exact sp_throwS (pc := 11) tr_RX7_66_85_70 hlt hX2 dX7_load_11 dX7_load_14 dX7_load_15 dX7_load_17 dX7_load_20 (by decide) (Nat.le_of_ble_eq_true rfl) hbc hbs hQ

theorem o_X7_load {h : HP} {v0 : Nat} {res : (Int32 ⊕ String) × HP} (hf : f_X7_load h v0 = some res) : ∃ fs, h v0 = some (.inr (7, fs)) := by
  obtain ⟨u, eu, -⟩ := ob hf
  exact kO_spec eu

theorem m_X7_load {l : Launch} {Q : PST} {h : HP} {v0 : Nat} {sz : Nat} {res : (Int32 ⊕ String) × HP} (hQ : ∀ sz', Q (outT res.1) res.2 sz') (hlt : l.stackTraces = false) (hf : f_X7_load h v0 = some res) : MM l M_X7_load [.ref v0] h sz Q := by
  obtain ⟨u, eu, hf⟩ := ob hf
  exact MM_of wok_X7_load (by decide +kernel) (Nat.le_of_ble_eq_true rfl) ((w_X7_load_0 hQ hlt rfl (by decide) (by decide) hf))

theorem dX7_seenNow_0 : decode (mB M_X7_seenNow) 0 = .ok (.aload_n 0, 1) := by decide +kernel
theorem dX7_seenNow_1 : decode (mB M_X7_seenNow) 1 = .ok (.getfield 51, 3) := by decide +kernel
theorem dX7_seenNow_4 : decode (mB M_X7_seenNow) 4 = .ok (.aload_n 1, 1) := by decide +kernel
theorem dX7_seenNow_5 : decode (mB M_X7_seenNow) 5 = .ok (.aload_n 1, 1) := by decide +kernel
theorem dX7_seenNow_6 : decode (mB M_X7_seenNow) 6 = .ok (.invokevirtual 98, 3) := by decide +kernel
theorem dX7_seenNow_9 : decode (mB M_X7_seenNow) 9 = .ok (.invokevirtual 122, 3) := by decide +kernel
theorem dX7_seenNow_12 : decode (mB M_X7_seenNow) 12 = .ok (.aload_n 0, 1) := by decide +kernel
theorem dX7_seenNow_13 : decode (mB M_X7_seenNow) 13 = .ok (.getfield 51, 3) := by decide +kernel
theorem dX7_seenNow_16 : decode (mB M_X7_seenNow) 16 = .ok (.iconst 0, 1) := by decide +kernel
theorem dX7_seenNow_17 : decode (mB M_X7_seenNow) 17 = .ok (.bipush 99, 2) := by decide +kernel
theorem dX7_seenNow_19 : decode (mB M_X7_seenNow) 19 = .ok (.invokevirtual 212, 3) := by decide +kernel
theorem dX7_seenNow_22 : decode (mB M_X7_seenNow) 22 = .ok (.ireturn, 1) := by decide +kernel
def b_X7_seenNow_0 (v0 : Nat) (v1 : Nat) (h : HP) : Option (Int32 × HP) :=
  (gR 7 6 h v0).bind fun x1 => (f_X3_latest h v1).bind fun y2 => (f_X5_look h x1 v1 y2).bind fun y3 => (gR 7 6 y3 v0).bind fun x4 => (f_X5_seenIn y3 x4 0 99).bind fun y5 => some (y5, y3)
def f_X7_seenNow (h : HP) (v0 : Nat) (v1 : Nat) : Option (Int32 × HP) := (kO 7 h v0).bind fun _ => b_X7_seenNow_0 v0 v1 h
theorem w_X7_seenNow_0 {l : Launch} {X : SCR} {Q : PST} {bc bs : Nat} {res : Int32 × HP} {h : HP} (hQ : ∀ sz', Q (.inl (some (.int res.1))) res.2 sz') {v0 : Nat} {v1 : Nat} {sz : Nat} (hf : b_X7_seenNow_0 v0 v1 h  = some res) : SP l X M_X7_seenNow 0 [(0, .ref v0), (1, .ref v1)] [] h sz bc bs Q := by
  rw [b_X7_seenNow_0] at hf
  refine sp_aload_n (pc := 0) dX7_seenNow_0 0 rfl ?_
  obtain ⟨x1, ex1, hf⟩ := ob hf
  refine sp_gR (pc := 1) fl_RX7_51 dX7_seenNow_1 ex1 ?_
  refine sp_aload_n (pc := 4) dX7_seenNow_4 1 rfl ?_
  refine sp_aload_n (pc := 5) dX7_seenNow_5 1 rfl ?_
  obtain ⟨y2, ey2, hf⟩ := ob hf
  obtain ⟨fsy2, hoy2⟩ := o_X3_latest ey2
  refine sp_callVi (pc := 6) (z := M_X3_latest) (As := []) (b := v1) (bc2 := bc) (bs2 := bs) (m_X3_latest (Q := _) (fun sz => ⟨y2, rfl, ?_⟩) ey2) rfl dX7_seenNow_6 hoy2 rfl rfl ck_X7_seenNow_98 (Nat.le_of_ble_eq_true rfl) rfl rfl rfl
  obtain ⟨y3, ey3, hf⟩ := ob hf
  obtain ⟨fsy3, hoy3⟩ := o_X5_look ey3
  refine sp_callVv (pc := 9) (z := M_X5_look) (As := [.ref v1, .int y2]) (b := x1) (bc2 := bc) (bs2 := bs) (m_X5_look (Q := _) (fun sz => ⟨(), rfl, ?_⟩) ey3) rfl dX7_seenNow_9 hoy3 rfl rfl ck_X7_seenNow_122 (Nat.le_of_ble_eq_true rfl) rfl rfl rfl
  refine sp_aload_n (pc := 12) dX7_seenNow_12 0 rfl ?_
  obtain ⟨x4, ex4, hf⟩ := ob hf
  refine sp_gR (pc := 13) fl_RX7_51 dX7_seenNow_13 ex4 ?_
  refine sp_iconst (pc := 16) (v := 0) dX7_seenNow_16 (by decide) ?_
  refine sp_bipush (pc := 17) (v := 99) dX7_seenNow_17 (by decide) ?_
  obtain ⟨y5, ey5, hf⟩ := ob hf
  obtain ⟨fsy5, hoy5⟩ := o_X5_seenIn ey5
  refine sp_callVi (pc := 19) (z := M_X5_seenIn) (As := [.int 0, .int 99]) (b := x4) (bc2 := bc) (bs2 := bs) (m_X5_seenIn (Q := _) (fun sz => ⟨y5, rfl, ?_⟩) ey5) rfl dX7_seenNow_19 hoy5 rfl rfl ck_X7_seenNow_212 (Nat.le_of_ble_eq_true rfl) rfl rfl rfl
  obtain rfl := Option.some.inj hf
  exact sp_ireturn (pc := 22) dX7_seenNow_22 rfl rfl (hQ _)

theorem o_X7_seenNow {h : HP} {v0 : Nat} {v1 : Nat} {res : Int32 × HP} (hf : f_X7_seenNow h v0 v1 = some res) : ∃ fs, h v0 = some (.inr (7, fs)) := by
  obtain ⟨u, eu, -⟩ := ob hf
  exact kO_spec eu

theorem m_X7_seenNow {l : Launch} {Q : PST} {h : HP} {v0 : Nat} {v1 : Nat} {sz : Nat} {res : Int32 × HP} (hQ : ∀ sz', Q (.inl (some (.int res.1))) res.2 sz') (hf : f_X7_seenNow h v0 v1 = some res) : MM l M_X7_seenNow [.ref v0, .ref v1] h sz Q := by
  obtain ⟨u, eu, hf⟩ := ob hf
  exact MM_of wok_X7_seenNow (by decide +kernel) (Nat.le_of_ble_eq_true rfl) ((w_X7_seenNow_0 hQ hf))

theorem dX7_about_0 : decode (mB M_X7_about) 0 = .ok (.iload_n 1, 1) := by decide +kernel
theorem dX7_about_1 : decode (mB M_X7_about) 1 = .ok (.tableswitch 151 0 8 #[51, 59, 68, 76, 84, 92, 108, 117, 143], 51) := by decide +kernel
theorem dX7_about_52 : decode (mB M_X7_about) 52 = .ok (.aload_n 0, 1) := by decide +kernel
theorem dX7_about_53 : decode (mB M_X7_about) 53 = .ok (.getfield 24, 3) := by decide +kernel
theorem dX7_about_56 : decode (mB M_X7_about) 56 = .ok (.invokevirtual 98, 3) := by decide +kernel
theorem dX7_about_59 : decode (mB M_X7_about) 59 = .ok (.ireturn, 1) := by decide +kernel
theorem dX7_about_60 : decode (mB M_X7_about) 60 = .ok (.aload_n 0, 1) := by decide +kernel
theorem dX7_about_61 : decode (mB M_X7_about) 61 = .ok (.getfield 24, 3) := by decide +kernel
theorem dX7_about_64 : decode (mB M_X7_about) 64 = .ok (.iconst (-1), 1) := by decide +kernel
theorem dX7_about_65 : decode (mB M_X7_about) 65 = .ok (.invokevirtual 101, 3) := by decide +kernel
theorem dX7_about_68 : decode (mB M_X7_about) 68 = .ok (.ireturn, 1) := by decide +kernel
theorem dX7_about_69 : decode (mB M_X7_about) 69 = .ok (.aload_n 0, 1) := by decide +kernel
theorem dX7_about_70 : decode (mB M_X7_about) 70 = .ok (.getfield 24, 3) := by decide +kernel
theorem dX7_about_73 : decode (mB M_X7_about) 73 = .ok (.invokevirtual 105, 3) := by decide +kernel
theorem dX7_about_76 : decode (mB M_X7_about) 76 = .ok (.ireturn, 1) := by decide +kernel
theorem dX7_about_77 : decode (mB M_X7_about) 77 = .ok (.aload_n 0, 1) := by decide +kernel
theorem dX7_about_78 : decode (mB M_X7_about) 78 = .ok (.getfield 24, 3) := by decide +kernel
theorem dX7_about_81 : decode (mB M_X7_about) 81 = .ok (.invokevirtual 108, 3) := by decide +kernel
theorem dX7_about_84 : decode (mB M_X7_about) 84 = .ok (.ireturn, 1) := by decide +kernel
theorem dX7_about_85 : decode (mB M_X7_about) 85 = .ok (.aload_n 0, 1) := by decide +kernel
theorem dX7_about_86 : decode (mB M_X7_about) 86 = .ok (.getfield 24, 3) := by decide +kernel
theorem dX7_about_89 : decode (mB M_X7_about) 89 = .ok (.invokevirtual 111, 3) := by decide +kernel
theorem dX7_about_92 : decode (mB M_X7_about) 92 = .ok (.ireturn, 1) := by decide +kernel
theorem dX7_about_93 : decode (mB M_X7_about) 93 = .ok (.aload_n 0, 1) := by decide +kernel
theorem dX7_about_94 : decode (mB M_X7_about) 94 = .ok (.getfield 24, 3) := by decide +kernel
theorem dX7_about_97 : decode (mB M_X7_about) 97 = .ok (.iconst 0, 1) := by decide +kernel
theorem dX7_about_98 : decode (mB M_X7_about) 98 = .ok (.aload_n 0, 1) := by decide +kernel
theorem dX7_about_99 : decode (mB M_X7_about) 99 = .ok (.getfield 24, 3) := by decide +kernel
theorem dX7_about_102 : decode (mB M_X7_about) 102 = .ok (.invokevirtual 111, 3) := by decide +kernel
theorem dX7_about_105 : decode (mB M_X7_about) 105 = .ok (.invokevirtual 114, 3) := by decide +kernel
theorem dX7_about_108 : decode (mB M_X7_about) 108 = .ok (.ireturn, 1) := by decide +kernel
theorem dX7_about_109 : decode (mB M_X7_about) 109 = .ok (.aload_n 0, 1) := by decide +kernel
theorem dX7_about_110 : decode (mB M_X7_about) 110 = .ok (.aload_n 0, 1) := by decide +kernel
theorem dX7_about_111 : decode (mB M_X7_about) 111 = .ok (.getfield 24, 3) := by decide +kernel
theorem dX7_about_114 : decode (mB M_X7_about) 114 = .ok (.invokevirtual 118, 3) := by decide +kernel
theorem dX7_about_117 : decode (mB M_X7_about) 117 = .ok (.ireturn, 1) := by decide +kernel
theorem dX7_about_118 : decode (mB M_X7_about) 118 = .ok (.aload_n 0, 1) := by decide +kernel
theorem dX7_about_119 : decode (mB M_X7_about) 119 = .ok (.getfield 51, 3) := by decide +kernel
theorem dX7_about_122 : decode (mB M_X7_about) 122 = .ok (.aload_n 0, 1) := by decide +kernel
theorem dX7_about_123 : decode (mB M_X7_about) 123 = .ok (.getfield 24, 3) := by decide +kernel
theorem dX7_about_126 : decode (mB M_X7_about) 126 = .ok (.aload_n 0, 1) := by decide +kernel
theorem dX7_about_127 : decode (mB M_X7_about) 127 = .ok (.getfield 24, 3) := by decide +kernel
theorem dX7_about_130 : decode (mB M_X7_about) 130 = .ok (.invokevirtual 98, 3) := by decide +kernel
theorem dX7_about_133 : decode (mB M_X7_about) 133 = .ok (.invokevirtual 122, 3) := by decide +kernel
theorem dX7_about_136 : decode (mB M_X7_about) 136 = .ok (.aload_n 0, 1) := by decide +kernel
theorem dX7_about_137 : decode (mB M_X7_about) 137 = .ok (.getfield 51, 3) := by decide +kernel
theorem dX7_about_140 : decode (mB M_X7_about) 140 = .ok (.invokevirtual 126, 3) := by decide +kernel
theorem dX7_about_143 : decode (mB M_X7_about) 143 = .ok (.ireturn, 1) := by decide +kernel
theorem dX7_about_144 : decode (mB M_X7_about) 144 = .ok (.aload_n 0, 1) := by decide +kernel
theorem dX7_about_145 : decode (mB M_X7_about) 145 = .ok (.getfield 24, 3) := by decide +kernel
theorem dX7_about_148 : decode (mB M_X7_about) 148 = .ok (.invokevirtual 129, 3) := by decide +kernel
theorem dX7_about_151 : decode (mB M_X7_about) 151 = .ok (.ireturn, 1) := by decide +kernel
theorem dX7_about_152 : decode (mB M_X7_about) 152 = .ok (.new 55, 3) := by decide +kernel
theorem dX7_about_155 : decode (mB M_X7_about) 155 = .ok (.dup, 1) := by decide +kernel
theorem dX7_about_156 : decode (mB M_X7_about) 156 = .ok (.ldc 132, 2) := by decide +kernel
theorem dX7_about_158 : decode (mB M_X7_about) 158 = .ok (.invokespecial 59, 3) := by decide +kernel
theorem dX7_about_161 : decode (mB M_X7_about) 161 = .ok (.athrow, 1) := by decide +kernel
def b_X7_about_0 (v0 : Nat) (v1 : Int32) (h : HP) : Option ((Int32 ⊕ String) × HP) :=
  if v1 = 0 then (gR 7 1 h v0).bind fun x2 => (f_X3_latest h x2).bind fun y3 => some (.inl y3, h) else if v1 = 1 then (gR 7 1 h v0).bind fun x5 => (f_X3_sizeOf h x5 (-1)).bind fun y6 => some (.inl y6, h) else if v1 = 2 then (gR 7 1 h v0).bind fun x8 => (f_X3_runs h x8).bind fun y9 => some (.inl y9, h) else if v1 = 3 then (gR 7 1 h v0).bind fun x11 => (f_X3_eyes h x11).bind fun y12 => some (.inl y12, h) else if v1 = 4 then (gR 7 1 h v0).bind fun x14 => (f_X3_size h x14).bind fun y15 => some (.inl y15, h) else if v1 = 5 then (gR 7 1 h v0).bind fun x17 => (gR 7 1 h v0).bind fun x18 => (f_X3_size h x18).bind fun y19 => (f_X3_entriesIn h x17 0 y19).bind fun y20 => some (.inl y20, h) else if v1 = 6 then (gR 7 1 h v0).bind fun x22 => (f_X7_seenNow h v0 x22).bind fun y23 => some (.inl y23.1, y23.2) else if v1 = 7 then (gR 7 6 h v0).bind fun x25 => (gR 7 1 h v0).bind fun x26 => (gR 7 1 h v0).bind fun x27 => (f_X3_latest h x27).bind fun y28 => (f_X5_look h x25 x26 y28).bind fun y29 => (gR 7 6 y29 v0).bind fun x30 => (f_X5_sum y29 x30).bind fun y31 => some (.inl y31, y29) else if v1 = 8 then (gR 7 1 h v0).bind fun x33 => (f_X3_fewer h x33).bind fun y34 => some (.inl y34, h) else some (.inr "java/lang/IllegalArgumentException", h)
def f_X7_about (h : HP) (v0 : Nat) (v1 : Int32) : Option ((Int32 ⊕ String) × HP) := (kO 7 h v0).bind fun _ => b_X7_about_0 v0 v1 h
theorem w_X7_about_0 {l : Launch} {X : SCR} {Q : PST} {bc bs : Nat} {res : (Int32 ⊕ String) × HP} {h : HP} (hQ : ∀ sz', Q (outT res.1) res.2 sz') (hlt : l.stackTraces = false) (hX2 : X.2 = some []) (hbc : 1 ≤ bc) (hbs : 6 ≤ bs) {v0 : Nat} {v1 : Int32} {sz : Nat} (hf : b_X7_about_0 v0 v1 h  = some res) : SP l X M_X7_about 0 [(0, .ref v0), (1, .int v1)] [] h sz bc bs Q := by
  rw [b_X7_about_0] at hf
  refine sp_iload_n (pc := 0) dX7_about_0 1 rfl ?_
  by_cases c1 : v1 = 0
  · rw [if_pos c1] at hf
    refine sp_tableIn (pc := 1) (off := 51) (tgt := 52) dX7_about_1 (by rw [c1]; decide) (by rw [c1]; decide) (by rw [c1]; rfl) (by decide) ?_
    refine sp_aload_n (pc := 52) dX7_about_52 0 rfl ?_
    obtain ⟨x2, ex2, hf⟩ := ob hf
    refine sp_gR (pc := 53) fl_RX7_24 dX7_about_53 ex2 ?_
    obtain ⟨y3, ey3, hf⟩ := ob hf
    obtain ⟨fsy3, hoy3⟩ := o_X3_latest ey3
    refine sp_callVi (pc := 56) (z := M_X3_latest) (As := []) (b := x2) (bc2 := bc) (bs2 := bs) (m_X3_latest (Q := _) (fun sz => ⟨y3, rfl, ?_⟩) ey3) rfl dX7_about_56 hoy3 rfl rfl ck_X7_about_98 (Nat.le_of_ble_eq_true rfl) rfl rfl rfl
    obtain rfl := Option.some.inj hf
    exact sp_ireturn (pc := 59) dX7_about_59 rfl rfl (hQ _)
  rw [if_neg c1] at hf
  by_cases c4 : v1 = 1
  · rw [if_pos c4] at hf
    refine sp_tableIn (pc := 1) (off := 59) (tgt := 60) dX7_about_1 (by rw [c4]; decide) (by rw [c4]; decide) (by rw [c4]; rfl) (by decide) ?_
    refine sp_aload_n (pc := 60) dX7_about_60 0 rfl ?_
    obtain ⟨x5, ex5, hf⟩ := ob hf
    refine sp_gR (pc := 61) fl_RX7_24 dX7_about_61 ex5 ?_
    refine sp_iconst (pc := 64) (v := (-1)) dX7_about_64 (by decide) ?_
    obtain ⟨y6, ey6, hf⟩ := ob hf
    obtain ⟨fsy6, hoy6⟩ := o_X3_sizeOf ey6
    refine sp_callVi (pc := 65) (z := M_X3_sizeOf) (As := [.int (-1)]) (b := x5) (bc2 := bc) (bs2 := bs) (m_X3_sizeOf (Q := _) (fun sz => ⟨y6, rfl, ?_⟩) ey6) rfl dX7_about_65 hoy6 rfl rfl ck_X7_about_101 (Nat.le_of_ble_eq_true rfl) rfl rfl rfl
    obtain rfl := Option.some.inj hf
    exact sp_ireturn (pc := 68) dX7_about_68 rfl rfl (hQ _)
  rw [if_neg c4] at hf
  by_cases c7 : v1 = 2
  · rw [if_pos c7] at hf
    refine sp_tableIn (pc := 1) (off := 68) (tgt := 69) dX7_about_1 (by rw [c7]; decide) (by rw [c7]; decide) (by rw [c7]; rfl) (by decide) ?_
    refine sp_aload_n (pc := 69) dX7_about_69 0 rfl ?_
    obtain ⟨x8, ex8, hf⟩ := ob hf
    refine sp_gR (pc := 70) fl_RX7_24 dX7_about_70 ex8 ?_
    obtain ⟨y9, ey9, hf⟩ := ob hf
    obtain ⟨fsy9, hoy9⟩ := o_X3_runs ey9
    refine sp_callVi (pc := 73) (z := M_X3_runs) (As := []) (b := x8) (bc2 := bc) (bs2 := bs) (m_X3_runs (Q := _) (fun sz => ⟨y9, rfl, ?_⟩) ey9) rfl dX7_about_73 hoy9 rfl rfl ck_X7_about_105 (Nat.le_of_ble_eq_true rfl) rfl rfl rfl
    obtain rfl := Option.some.inj hf
    exact sp_ireturn (pc := 76) dX7_about_76 rfl rfl (hQ _)
  rw [if_neg c7] at hf
  by_cases c10 : v1 = 3
  · rw [if_pos c10] at hf
    refine sp_tableIn (pc := 1) (off := 76) (tgt := 77) dX7_about_1 (by rw [c10]; decide) (by rw [c10]; decide) (by rw [c10]; rfl) (by decide) ?_
    refine sp_aload_n (pc := 77) dX7_about_77 0 rfl ?_
    obtain ⟨x11, ex11, hf⟩ := ob hf
    refine sp_gR (pc := 78) fl_RX7_24 dX7_about_78 ex11 ?_
    obtain ⟨y12, ey12, hf⟩ := ob hf
    obtain ⟨fsy12, hoy12⟩ := o_X3_eyes ey12
    refine sp_callVi (pc := 81) (z := M_X3_eyes) (As := []) (b := x11) (bc2 := bc) (bs2 := bs) (m_X3_eyes (Q := _) (fun sz => ⟨y12, rfl, ?_⟩) ey12) rfl dX7_about_81 hoy12 rfl rfl ck_X7_about_108 (Nat.le_of_ble_eq_true rfl) rfl rfl rfl
    obtain rfl := Option.some.inj hf
    exact sp_ireturn (pc := 84) dX7_about_84 rfl rfl (hQ _)
  rw [if_neg c10] at hf
  by_cases c13 : v1 = 4
  · rw [if_pos c13] at hf
    refine sp_tableIn (pc := 1) (off := 84) (tgt := 85) dX7_about_1 (by rw [c13]; decide) (by rw [c13]; decide) (by rw [c13]; rfl) (by decide) ?_
    refine sp_aload_n (pc := 85) dX7_about_85 0 rfl ?_
    obtain ⟨x14, ex14, hf⟩ := ob hf
    refine sp_gR (pc := 86) fl_RX7_24 dX7_about_86 ex14 ?_
    obtain ⟨y15, ey15, hf⟩ := ob hf
    obtain ⟨fsy15, hoy15⟩ := o_X3_size ey15
    refine sp_callVi (pc := 89) (z := M_X3_size) (As := []) (b := x14) (bc2 := bc) (bs2 := bs) (m_X3_size (Q := _) (fun sz => ⟨y15, rfl, ?_⟩) ey15) rfl dX7_about_89 hoy15 rfl rfl ck_X7_about_111 (Nat.le_of_ble_eq_true rfl) rfl rfl rfl
    obtain rfl := Option.some.inj hf
    exact sp_ireturn (pc := 92) dX7_about_92 rfl rfl (hQ _)
  rw [if_neg c13] at hf
  by_cases c16 : v1 = 5
  · rw [if_pos c16] at hf
    refine sp_tableIn (pc := 1) (off := 92) (tgt := 93) dX7_about_1 (by rw [c16]; decide) (by rw [c16]; decide) (by rw [c16]; rfl) (by decide) ?_
    refine sp_aload_n (pc := 93) dX7_about_93 0 rfl ?_
    obtain ⟨x17, ex17, hf⟩ := ob hf
    refine sp_gR (pc := 94) fl_RX7_24 dX7_about_94 ex17 ?_
    refine sp_iconst (pc := 97) (v := 0) dX7_about_97 (by decide) ?_
    refine sp_aload_n (pc := 98) dX7_about_98 0 rfl ?_
    obtain ⟨x18, ex18, hf⟩ := ob hf
    refine sp_gR (pc := 99) fl_RX7_24 dX7_about_99 ex18 ?_
    obtain ⟨y19, ey19, hf⟩ := ob hf
    obtain ⟨fsy19, hoy19⟩ := o_X3_size ey19
    refine sp_callVi (pc := 102) (z := M_X3_size) (As := []) (b := x18) (bc2 := bc) (bs2 := bs) (m_X3_size (Q := _) (fun sz => ⟨y19, rfl, ?_⟩) ey19) rfl dX7_about_102 hoy19 rfl rfl ck_X7_about_111 (Nat.le_of_ble_eq_true rfl) rfl rfl rfl
    obtain ⟨y20, ey20, hf⟩ := ob hf
    obtain ⟨fsy20, hoy20⟩ := o_X3_entriesIn ey20
    refine sp_callVi (pc := 105) (z := M_X3_entriesIn) (As := [.int 0, .int y19]) (b := x17) (bc2 := bc) (bs2 := bs) (m_X3_entriesIn (Q := _) (fun sz => ⟨y20, rfl, ?_⟩) ey20) rfl dX7_about_105 hoy20 rfl rfl ck_X7_about_114 (Nat.le_of_ble_eq_true rfl) rfl rfl rfl
    obtain rfl := Option.some.inj hf
    exact sp_ireturn (pc := 108) dX7_about_108 rfl rfl (hQ _)
  rw [if_neg c16] at hf
  by_cases c21 : v1 = 6
  · rw [if_pos c21] at hf
    refine sp_tableIn (pc := 1) (off := 108) (tgt := 109) dX7_about_1 (by rw [c21]; decide) (by rw [c21]; decide) (by rw [c21]; rfl) (by decide) ?_
    refine sp_aload_n (pc := 109) dX7_about_109 0 rfl ?_
    refine sp_aload_n (pc := 110) dX7_about_110 0 rfl ?_
    obtain ⟨x22, ex22, hf⟩ := ob hf
    refine sp_gR (pc := 111) fl_RX7_24 dX7_about_111 ex22 ?_
    obtain ⟨y23, ey23, hf⟩ := ob hf
    obtain ⟨fsy23, hoy23⟩ := o_X7_seenNow ey23
    refine sp_callVi (pc := 114) (z := M_X7_seenNow) (As := [.ref x22]) (b := v0) (bc2 := bc) (bs2 := bs) (m_X7_seenNow (Q := _) (fun sz => ⟨y23.1, rfl, ?_⟩) ey23) rfl dX7_about_114 hoy23 rfl rfl ck_X7_about_118 (Nat.le_of_ble_eq_true rfl) rfl rfl rfl
    obtain rfl := Option.some.inj hf
    exact sp_ireturn (pc := 117) dX7_about_117 rfl rfl (hQ _)
  rw [if_neg c21] at hf
  by_cases c24 : v1 = 7
  · rw [if_pos c24] at hf
    refine sp_tableIn (pc := 1) (off := 117) (tgt := 118) dX7_about_1 (by rw [c24]; decide) (by rw [c24]; decide) (by rw [c24]; rfl) (by decide) ?_
    refine sp_aload_n (pc := 118) dX7_about_118 0 rfl ?_
    obtain ⟨x25, ex25, hf⟩ := ob hf
    refine sp_gR (pc := 119) fl_RX7_51 dX7_about_119 ex25 ?_
    refine sp_aload_n (pc := 122) dX7_about_122 0 rfl ?_
    obtain ⟨x26, ex26, hf⟩ := ob hf
    refine sp_gR (pc := 123) fl_RX7_24 dX7_about_123 ex26 ?_
    refine sp_aload_n (pc := 126) dX7_about_126 0 rfl ?_
    obtain ⟨x27, ex27, hf⟩ := ob hf
    refine sp_gR (pc := 127) fl_RX7_24 dX7_about_127 ex27 ?_
    obtain ⟨y28, ey28, hf⟩ := ob hf
    obtain ⟨fsy28, hoy28⟩ := o_X3_latest ey28
    refine sp_callVi (pc := 130) (z := M_X3_latest) (As := []) (b := x27) (bc2 := bc) (bs2 := bs) (m_X3_latest (Q := _) (fun sz => ⟨y28, rfl, ?_⟩) ey28) rfl dX7_about_130 hoy28 rfl rfl ck_X7_about_98 (Nat.le_of_ble_eq_true rfl) rfl rfl rfl
    obtain ⟨y29, ey29, hf⟩ := ob hf
    obtain ⟨fsy29, hoy29⟩ := o_X5_look ey29
    refine sp_callVv (pc := 133) (z := M_X5_look) (As := [.ref x26, .int y28]) (b := x25) (bc2 := bc) (bs2 := bs) (m_X5_look (Q := _) (fun sz => ⟨(), rfl, ?_⟩) ey29) rfl dX7_about_133 hoy29 rfl rfl ck_X7_about_122 (Nat.le_of_ble_eq_true rfl) rfl rfl rfl
    refine sp_aload_n (pc := 136) dX7_about_136 0 rfl ?_
    obtain ⟨x30, ex30, hf⟩ := ob hf
    refine sp_gR (pc := 137) fl_RX7_51 dX7_about_137 ex30 ?_
    obtain ⟨y31, ey31, hf⟩ := ob hf
    obtain ⟨fsy31, hoy31⟩ := o_X5_sum ey31
    refine sp_callVi (pc := 140) (z := M_X5_sum) (As := []) (b := x30) (bc2 := bc) (bs2 := bs) (m_X5_sum (Q := _) (fun sz => ⟨y31, rfl, ?_⟩) ey31) rfl dX7_about_140 hoy31 rfl rfl ck_X7_about_126 (Nat.le_of_ble_eq_true rfl) rfl rfl rfl
    obtain rfl := Option.some.inj hf
    exact sp_ireturn (pc := 143) dX7_about_143 rfl rfl (hQ _)
  rw [if_neg c24] at hf
  by_cases c32 : v1 = 8
  · rw [if_pos c32] at hf
    refine sp_tableIn (pc := 1) (off := 143) (tgt := 144) dX7_about_1 (by rw [c32]; decide) (by rw [c32]; decide) (by rw [c32]; rfl) (by decide) ?_
    refine sp_aload_n (pc := 144) dX7_about_144 0 rfl ?_
    obtain ⟨x33, ex33, hf⟩ := ob hf
    refine sp_gR (pc := 145) fl_RX7_24 dX7_about_145 ex33 ?_
    obtain ⟨y34, ey34, hf⟩ := ob hf
    obtain ⟨fsy34, hoy34⟩ := o_X3_fewer ey34
    refine sp_callVi (pc := 148) (z := M_X3_fewer) (As := []) (b := x33) (bc2 := bc) (bs2 := bs) (m_X3_fewer (Q := _) (fun sz => ⟨y34, rfl, ?_⟩) ey34) rfl dX7_about_148 hoy34 rfl rfl ck_X7_about_129 (Nat.le_of_ble_eq_true rfl) rfl rfl rfl
    obtain rfl := Option.some.inj hf
    exact sp_ireturn (pc := 151) dX7_about_151 rfl rfl (hQ _)
  rw [if_neg c32] at hf
  refine sp_tableOut (pc := 1) (tgt := 152) dX7_about_1 (tbl_out (fun i h1 h2 he => ?_)) (by decide) ?_
  · rcases (show i = 0 ∨ i = 1 ∨ i = 2 ∨ i = 3 ∨ i = 4 ∨ i = 5 ∨ i = 6 ∨ i = 7 ∨ i = 8 by omega) with rfl | rfl | rfl | rfl | rfl | rfl | rfl | rfl | rfl
    · exact c1 (Int32.toInt_inj.mp (he.trans (by decide)))
    · exact c4 (Int32.toInt_inj.mp (he.trans (by decide)))
    · exact c7 (Int32.toInt_inj.mp (he.trans (by decide)))
    · exact c10 (Int32.toInt_inj.mp (he.trans (by decide)))
    · exact c13 (Int32.toInt_inj.mp (he.trans (by decide)))
    · exact c16 (Int32.toInt_inj.mp (he.trans (by decide)))
    · exact c21 (Int32.toInt_inj.mp (he.trans (by decide)))
    · exact c24 (Int32.toInt_inj.mp (he.trans (by decide)))
    · exact c32 (Int32.toInt_inj.mp (he.trans (by decide)))
  obtain rfl := Option.some.inj hf
  exact sp_throwS (pc := 152) tr_RX7_55_132_59 hlt hX2 dX7_about_152 dX7_about_155 dX7_about_156 dX7_about_158 dX7_about_161 (by decide) (Nat.le_of_ble_eq_true rfl) hbc hbs hQ

theorem o_X7_about {h : HP} {v0 : Nat} {v1 : Int32} {res : (Int32 ⊕ String) × HP} (hf : f_X7_about h v0 v1 = some res) : ∃ fs, h v0 = some (.inr (7, fs)) := by
  obtain ⟨u, eu, -⟩ := ob hf
  exact kO_spec eu

theorem m_X7_about {l : Launch} {Q : PST} {h : HP} {v0 : Nat} {v1 : Int32} {sz : Nat} {res : (Int32 ⊕ String) × HP} (hQ : ∀ sz', Q (outT res.1) res.2 sz') (hlt : l.stackTraces = false) (hf : f_X7_about h v0 v1 = some res) : MM l M_X7_about [.ref v0, .int v1] h sz Q := by
  obtain ⟨u, eu, hf⟩ := ob hf
  exact MM_of wok_X7_about (by decide +kernel) (Nat.le_of_ble_eq_true rfl) ((w_X7_about_0 hQ hlt rfl (by decide) (by decide) hf))

theorem dX7_get_0 : decode (mB M_X7_get) 0 = .ok (.iload_n 1, 1) := by decide +kernel
theorem dX7_get_1 : decode (mB M_X7_get) 1 = .ok (.invokestatic 134, 3) := by decide +kernel
theorem dX7_get_4 : decode (mB M_X7_get) 4 = .ok (.ifCond .eq 14, 3) := by decide +kernel
theorem dX7_get_7 : decode (mB M_X7_get) 7 = .ok (.aload_n 0, 1) := by decide +kernel
theorem dX7_get_8 : decode (mB M_X7_get) 8 = .ok (.getfield 24, 3) := by decide +kernel
theorem dX7_get_11 : decode (mB M_X7_get) 11 = .ok (.iload_n 2, 1) := by decide +kernel
theorem dX7_get_12 : decode (mB M_X7_get) 12 = .ok (.invokevirtual 137, 3) := by decide +kernel
theorem dX7_get_15 : decode (mB M_X7_get) 15 = .ok (.ifCond .ne 13, 3) := by decide +kernel
theorem dX7_get_18 : decode (mB M_X7_get) 18 = .ok (.new 140, 3) := by decide +kernel
theorem dX7_get_21 : decode (mB M_X7_get) 21 = .ok (.dup, 1) := by decide +kernel
theorem dX7_get_22 : decode (mB M_X7_get) 22 = .ok (.ldc 142, 2) := by decide +kernel
theorem dX7_get_24 : decode (mB M_X7_get) 24 = .ok (.invokespecial 144, 3) := by decide +kernel
theorem dX7_get_27 : decode (mB M_X7_get) 27 = .ok (.athrow, 1) := by decide +kernel
theorem dX7_get_28 : decode (mB M_X7_get) 28 = .ok (.aload_n 0, 1) := by decide +kernel
theorem dX7_get_29 : decode (mB M_X7_get) 29 = .ok (.getfield 24, 3) := by decide +kernel
theorem dX7_get_32 : decode (mB M_X7_get) 32 = .ok (.iload_n 1, 1) := by decide +kernel
theorem dX7_get_33 : decode (mB M_X7_get) 33 = .ok (.aload_n 0, 1) := by decide +kernel
theorem dX7_get_34 : decode (mB M_X7_get) 34 = .ok (.getfield 24, 3) := by decide +kernel
theorem dX7_get_37 : decode (mB M_X7_get) 37 = .ok (.iload_n 2, 1) := by decide +kernel
theorem dX7_get_38 : decode (mB M_X7_get) 38 = .ok (.invokevirtual 145, 3) := by decide +kernel
theorem dX7_get_41 : decode (mB M_X7_get) 41 = .ok (.invokevirtual 148, 3) := by decide +kernel
theorem dX7_get_44 : decode (mB M_X7_get) 44 = .ok (.istore_n 3, 1) := by decide +kernel
theorem dX7_get_45 : decode (mB M_X7_get) 45 = .ok (.iload_n 3, 1) := by decide +kernel
theorem dX7_get_46 : decode (mB M_X7_get) 46 = .ok (.ifCond .ne 7, 3) := by decide +kernel
theorem dX7_get_49 : decode (mB M_X7_get) 49 = .ok (.iconst (-1), 1) := by decide +kernel
theorem dX7_get_50 : decode (mB M_X7_get) 50 = .ok (.goto 4, 3) := by decide +kernel
theorem dX7_get_53 : decode (mB M_X7_get) 53 = .ok (.iload_n 3, 1) := by decide +kernel
theorem dX7_get_54 : decode (mB M_X7_get) 54 = .ok (.ireturn, 1) := by decide +kernel
def b_X7_get_18 (h : HP) : Option (Int32 ⊕ String) :=
  some (.inr "java/lang/IndexOutOfBoundsException")
def b_X7_get_0 (h : HP) (v0 : Nat) (v1 : Int32) (v2 : Int32) : Option (Int32 ⊕ String) :=
  (f_X7_isKey h v1).bind fun y1 => if y1 = 0 then b_X7_get_18 h  else (gR 7 1 h v0).bind fun x3 => (f_X3_isView h x3 v2).bind fun y4 => if y4 = 0 then b_X7_get_18 h  else (gR 7 1 h v0).bind fun x6 => (gR 7 1 h v0).bind fun x7 => (f_X3_limitOf h x7 v2).bind fun y8 => (f_X3_valueFor h x6 v1 y8).bind fun y9 => if y9 = 0 then some (.inl (-1)) else some (.inl y9)
def f_X7_get (h : HP) (v0 : Nat) (v1 : Int32) (v2 : Int32) : Option (Int32 ⊕ String) := (kO 7 h v0).bind fun _ => b_X7_get_0 h v0 v1 v2
theorem w_X7_get_18 {l : Launch} {X : SCR} {Q : PST} {bc bs : Nat} {res : Int32 ⊕ String} {h : HP} (hQ : ∀ sz', Q (outT res) h sz') (hlt : l.stackTraces = false) (hX2 : X.2 = some []) (hbc : 1 ≤ bc) (hbs : 6 ≤ bs) {sz : Nat} (hf : b_X7_get_18 h  = some res) : SP l X M_X7_get 18 [] [] h sz bc bs Q := by
  rw [b_X7_get_18] at hf
  obtain rfl := Option.some.inj hf
  exact sp_throwS (pc := 18) tr_RX7_140_142_144 hlt hX2 dX7_get_18 dX7_get_21 dX7_get_22 dX7_get_24 dX7_get_27 (by decide) (Nat.le_of_ble_eq_true rfl) hbc hbs hQ

theorem w_X7_get_0 {l : Launch} {X : SCR} {Q : PST} {bc bs : Nat} {res : Int32 ⊕ String} {h : HP} (hQ : ∀ sz', Q (outT res) h sz') (hlt : l.stackTraces = false) (hX2 : X.2 = some []) (hbc : 1 ≤ bc) (hbs : 6 ≤ bs) {v0 : Nat} {v1 : Int32} {v2 : Int32} {sz : Nat} (hf : b_X7_get_0 h v0 v1 v2  = some res) : SP l X M_X7_get 0 [(0, .ref v0), (1, .int v1), (2, .int v2)] [] h sz bc bs Q := by
  rw [b_X7_get_0] at hf
  refine sp_iload_n (pc := 0) dX7_get_0 1 rfl ?_
  obtain ⟨y1, ey1, hf⟩ := ob hf
  refine sp_callSi (pc := 1) (z := M_X7_isKey) (As := [.int v1]) (bc2 := bc) (bs2 := bs) (m_X7_isKey (Q := _) (fun sz => ⟨y1, rfl, ?_⟩) ey1) rfl dX7_get_1 rfl ck_X7_get_134 (Nat.le_of_ble_eq_true rfl) rfl rfl rfl
  refine sp_if_eq (pc := 4) (tgt := 18) dX7_get_4 (by decide) (fun c2 => ?_) (fun c2 => ?_)
  · rw [if_pos c2] at hf
    exact sp_sub [] rfl (w_X7_get_18 hQ hlt hX2 hbc hbs hf)
  · rw [if_neg c2] at hf
    refine sp_aload_n (pc := 7) dX7_get_7 0 rfl ?_
    obtain ⟨x3, ex3, hf⟩ := ob hf
    refine sp_gR (pc := 8) fl_RX7_24 dX7_get_8 ex3 ?_
    refine sp_iload_n (pc := 11) dX7_get_11 2 rfl ?_
    obtain ⟨y4, ey4, hf⟩ := ob hf
    obtain ⟨fsy4, hoy4⟩ := o_X3_isView ey4
    refine sp_callVi (pc := 12) (z := M_X3_isView) (As := [.int v2]) (b := x3) (bc2 := bc) (bs2 := bs) (m_X3_isView (Q := _) (fun sz => ⟨y4, rfl, ?_⟩) ey4) rfl dX7_get_12 hoy4 rfl rfl ck_X7_get_137 (Nat.le_of_ble_eq_true rfl) rfl rfl rfl
    refine sp_if_ne (pc := 15) (tgt := 28) dX7_get_15 (by decide) (fun c5 => ?_) (fun c5 => ?_)
    · rw [if_neg c5] at hf
      refine sp_aload_n (pc := 28) dX7_get_28 0 rfl ?_
      obtain ⟨x6, ex6, hf⟩ := ob hf
      refine sp_gR (pc := 29) fl_RX7_24 dX7_get_29 ex6 ?_
      refine sp_iload_n (pc := 32) dX7_get_32 1 rfl ?_
      refine sp_aload_n (pc := 33) dX7_get_33 0 rfl ?_
      obtain ⟨x7, ex7, hf⟩ := ob hf
      refine sp_gR (pc := 34) fl_RX7_24 dX7_get_34 ex7 ?_
      refine sp_iload_n (pc := 37) dX7_get_37 2 rfl ?_
      obtain ⟨y8, ey8, hf⟩ := ob hf
      obtain ⟨fsy8, hoy8⟩ := o_X3_limitOf ey8
      refine sp_callVi (pc := 38) (z := M_X3_limitOf) (As := [.int v2]) (b := x7) (bc2 := bc) (bs2 := bs) (m_X3_limitOf (Q := _) (fun sz => ⟨y8, rfl, ?_⟩) ey8) rfl dX7_get_38 hoy8 rfl rfl ck_X7_get_145 (Nat.le_of_ble_eq_true rfl) rfl rfl rfl
      obtain ⟨y9, ey9, hf⟩ := ob hf
      obtain ⟨fsy9, hoy9⟩ := o_X3_valueFor ey9
      refine sp_callVi (pc := 41) (z := M_X3_valueFor) (As := [.int v1, .int y8]) (b := x6) (bc2 := bc) (bs2 := bs) (m_X3_valueFor (Q := _) (fun sz => ⟨y9, rfl, ?_⟩) ey9) rfl dX7_get_41 hoy9 rfl rfl ck_X7_get_148 (Nat.le_of_ble_eq_true rfl) rfl rfl rfl
      refine sp_istore_n (pc := 44) (lv' := [(3, .int y9), (0, .ref v0), (1, .int v1), (2, .int v2)]) dX7_get_44 (by decide) rfl ?_
      refine sp_iload_n (pc := 45) dX7_get_45 0 rfl ?_
      refine sp_if_ne (pc := 46) (tgt := 53) dX7_get_46 (by decide) (fun c10 => ?_) (fun c10 => ?_)
      · rw [if_neg c10] at hf
        refine sp_iload_n (pc := 53) dX7_get_53 0 rfl ?_
        obtain rfl := Option.some.inj hf
        exact sp_ireturn (pc := 54) dX7_get_54 rfl rfl (hQ _)
      · rw [if_pos c10] at hf
        refine sp_iconst (pc := 49) (v := (-1)) dX7_get_49 (by decide) ?_
        refine sp_goto (pc := 50) (tgt := 54) dX7_get_50 (by decide) ?_
        obtain rfl := Option.some.inj hf
        exact sp_ireturn (pc := 54) dX7_get_54 rfl rfl (hQ _)
    · rw [if_pos c5] at hf
      exact sp_sub [] rfl (w_X7_get_18 hQ hlt hX2 hbc hbs hf)

theorem o_X7_get {h : HP} {v0 : Nat} {v1 : Int32} {v2 : Int32} {res : Int32 ⊕ String} (hf : f_X7_get h v0 v1 v2 = some res) : ∃ fs, h v0 = some (.inr (7, fs)) := by
  obtain ⟨u, eu, -⟩ := ob hf
  exact kO_spec eu

theorem m_X7_get {l : Launch} {Q : PST} {h : HP} {v0 : Nat} {v1 : Int32} {v2 : Int32} {sz : Nat} {res : Int32 ⊕ String} (hQ : ∀ sz', Q (outT res) h sz') (hlt : l.stackTraces = false) (hf : f_X7_get h v0 v1 v2 = some res) : MM l M_X7_get [.ref v0, .int v1, .int v2] h sz Q := by
  obtain ⟨u, eu, hf⟩ := ob hf
  exact MM_of wok_X7_get (by decide +kernel) (Nat.le_of_ble_eq_true rfl) ((w_X7_get_0 hQ hlt rfl (by decide) (by decide) hf))

theorem dX7_write_0 : decode (mB M_X7_write) 0 = .ok (.aload_n 0, 1) := by decide +kernel
theorem dX7_write_1 : decode (mB M_X7_write) 1 = .ok (.getfield 24, 3) := by decide +kernel
theorem dX7_write_4 : decode (mB M_X7_write) 4 = .ok (.iload_n 1, 1) := by decide +kernel
theorem dX7_write_5 : decode (mB M_X7_write) 5 = .ok (.invokevirtual 151, 3) := by decide +kernel
theorem dX7_write_8 : decode (mB M_X7_write) 8 = .ok (.ifCond .ne 13, 3) := by decide +kernel
theorem dX7_write_11 : decode (mB M_X7_write) 11 = .ok (.new 140, 3) := by decide +kernel
theorem dX7_write_14 : decode (mB M_X7_write) 14 = .ok (.dup, 1) := by decide +kernel
theorem dX7_write_15 : decode (mB M_X7_write) 15 = .ok (.ldc 154, 2) := by decide +kernel
theorem dX7_write_17 : decode (mB M_X7_write) 17 = .ok (.invokespecial 144, 3) := by decide +kernel
theorem dX7_write_20 : decode (mB M_X7_write) 20 = .ok (.athrow, 1) := by decide +kernel
theorem dX7_write_21 : decode (mB M_X7_write) 21 = .ok (.iload_n 2, 1) := by decide +kernel
theorem dX7_write_22 : decode (mB M_X7_write) 22 = .ok (.ifCond .lt 12, 3) := by decide +kernel
theorem dX7_write_25 : decode (mB M_X7_write) 25 = .ok (.iload_n 3, 1) := by decide +kernel
theorem dX7_write_26 : decode (mB M_X7_write) 26 = .ok (.ifCond .lt 8, 3) := by decide +kernel
theorem dX7_write_29 : decode (mB M_X7_write) 29 = .ok (.iload_n 3, 1) := by decide +kernel
theorem dX7_write_30 : decode (mB M_X7_write) 30 = .ok (.iconst 3, 1) := by decide +kernel
theorem dX7_write_31 : decode (mB M_X7_write) 31 = .ok (.if_icmp .le 13, 3) := by decide +kernel
theorem dX7_write_34 : decode (mB M_X7_write) 34 = .ok (.new 55, 3) := by decide +kernel
theorem dX7_write_37 : decode (mB M_X7_write) 37 = .ok (.dup, 1) := by decide +kernel
theorem dX7_write_38 : decode (mB M_X7_write) 38 = .ok (.ldc 176, 2) := by decide +kernel
theorem dX7_write_40 : decode (mB M_X7_write) 40 = .ok (.invokespecial 59, 3) := by decide +kernel
theorem dX7_write_43 : decode (mB M_X7_write) 43 = .ok (.athrow, 1) := by decide +kernel
theorem dX7_write_44 : decode (mB M_X7_write) 44 = .ok (.iload_n 2, 1) := by decide +kernel
theorem dX7_write_45 : decode (mB M_X7_write) 45 = .ok (.aload_n 0, 1) := by decide +kernel
theorem dX7_write_46 : decode (mB M_X7_write) 46 = .ok (.getfield 24, 3) := by decide +kernel
theorem dX7_write_49 : decode (mB M_X7_write) 49 = .ok (.iload_n 1, 1) := by decide +kernel
theorem dX7_write_50 : decode (mB M_X7_write) 50 = .ok (.invokevirtual 101, 3) := by decide +kernel
theorem dX7_write_53 : decode (mB M_X7_write) 53 = .ok (.if_icmp .lt 5, 3) := by decide +kernel
theorem dX7_write_56 : decode (mB M_X7_write) 56 = .ok (.iconst (-1), 1) := by decide +kernel
theorem dX7_write_57 : decode (mB M_X7_write) 57 = .ok (.ireturn, 1) := by decide +kernel
theorem dX7_write_58 : decode (mB M_X7_write) 58 = .ok (.aload_n 0, 1) := by decide +kernel
theorem dX7_write_59 : decode (mB M_X7_write) 59 = .ok (.getfield 24, 3) := by decide +kernel
theorem dX7_write_62 : decode (mB M_X7_write) 62 = .ok (.iload_n 1, 1) := by decide +kernel
theorem dX7_write_63 : decode (mB M_X7_write) 63 = .ok (.invokevirtual 156, 3) := by decide +kernel
theorem dX7_write_66 : decode (mB M_X7_write) 66 = .ok (.iload_n 2, 1) := by decide +kernel
theorem dX7_write_67 : decode (mB M_X7_write) 67 = .ok (.iadd, 1) := by decide +kernel
theorem dX7_write_68 : decode (mB M_X7_write) 68 = .ok (.istore 4, 2) := by decide +kernel
theorem dX7_write_70 : decode (mB M_X7_write) 70 = .ok (.iload_n 3, 1) := by decide +kernel
theorem dX7_write_71 : decode (mB M_X7_write) 71 = .ok (.tableswitch 64 0 2 #[25, 38, 51], 25) := by decide +kernel
theorem dX7_write_96 : decode (mB M_X7_write) 96 = .ok (.aload_n 0, 1) := by decide +kernel
theorem dX7_write_97 : decode (mB M_X7_write) 97 = .ok (.getfield 24, 3) := by decide +kernel
theorem dX7_write_100 : decode (mB M_X7_write) 100 = .ok (.getfield 162, 3) := by decide +kernel
theorem dX7_write_103 : decode (mB M_X7_write) 103 = .ok (.iload 4, 2) := by decide +kernel
theorem dX7_write_105 : decode (mB M_X7_write) 105 = .ok (.invokevirtual 166, 3) := by decide +kernel
theorem dX7_write_108 : decode (mB M_X7_write) 108 = .ok (.ireturn, 1) := by decide +kernel
theorem dX7_write_109 : decode (mB M_X7_write) 109 = .ok (.aload_n 0, 1) := by decide +kernel
theorem dX7_write_110 : decode (mB M_X7_write) 110 = .ok (.getfield 24, 3) := by decide +kernel
theorem dX7_write_113 : decode (mB M_X7_write) 113 = .ok (.getfield 162, 3) := by decide +kernel
theorem dX7_write_116 : decode (mB M_X7_write) 116 = .ok (.iload 4, 2) := by decide +kernel
theorem dX7_write_118 : decode (mB M_X7_write) 118 = .ok (.invokevirtual 178, 3) := by decide +kernel
theorem dX7_write_121 : decode (mB M_X7_write) 121 = .ok (.ireturn, 1) := by decide +kernel
theorem dX7_write_122 : decode (mB M_X7_write) 122 = .ok (.aload_n 0, 1) := by decide +kernel
theorem dX7_write_123 : decode (mB M_X7_write) 123 = .ok (.getfield 24, 3) := by decide +kernel
theorem dX7_write_126 : decode (mB M_X7_write) 126 = .ok (.getfield 162, 3) := by decide +kernel
theorem dX7_write_129 : decode (mB M_X7_write) 129 = .ok (.iload 4, 2) := by decide +kernel
theorem dX7_write_131 : decode (mB M_X7_write) 131 = .ok (.invokevirtual 181, 3) := by decide +kernel
theorem dX7_write_134 : decode (mB M_X7_write) 134 = .ok (.ireturn, 1) := by decide +kernel
theorem dX7_write_135 : decode (mB M_X7_write) 135 = .ok (.aload_n 0, 1) := by decide +kernel
theorem dX7_write_136 : decode (mB M_X7_write) 136 = .ok (.getfield 24, 3) := by decide +kernel
theorem dX7_write_139 : decode (mB M_X7_write) 139 = .ok (.getfield 162, 3) := by decide +kernel
theorem dX7_write_142 : decode (mB M_X7_write) 142 = .ok (.iload 4, 2) := by decide +kernel
theorem dX7_write_144 : decode (mB M_X7_write) 144 = .ok (.invokevirtual 184, 3) := by decide +kernel
theorem dX7_write_147 : decode (mB M_X7_write) 147 = .ok (.ireturn, 1) := by decide +kernel
def b_X7_write_34 (h : HP) : Option (Int32 ⊕ String) :=
  some (.inr "java/lang/IllegalArgumentException")
def b_X7_write_0 (h : HP) (v0 : Nat) (v1 : Int32) (v2 : Int32) (v3 : Int32) : Option (Int32 ⊕ String) :=
  (gR 7 1 h v0).bind fun x1 => (f_X3_isPlace h x1 v1).bind fun y2 => if y2 = 0 then some (.inr "java/lang/IndexOutOfBoundsException") else if v2 < 0 then b_X7_write_34 h  else if v3 < 0 then b_X7_write_34 h  else if v3 ≤ 3 then (gR 7 1 h v0).bind fun x7 => (f_X3_sizeOf h x7 v1).bind fun y8 => if v2 < y8 then (gR 7 1 h v0).bind fun x10 => (f_X3_startOf h x10 v1).bind fun y11 => if v3 = 0 then (gR 7 1 h v0).bind fun x13 => (gR 3 1 h x13).bind fun x14 => (f_X6_numberAt h x14 (y11 + v2)).bind fun y15 => some (.inl y15) else if v3 = 1 then (gR 7 1 h v0).bind fun x17 => (gR 3 1 h x17).bind fun x18 => (f_X6_firstAt h x18 (y11 + v2)).bind fun y19 => some (.inl y19) else if v3 = 2 then (gR 7 1 h v0).bind fun x21 => (gR 3 1 h x21).bind fun x22 => (f_X6_lastAt h x22 (y11 + v2)).bind fun y23 => some (.inl y23) else (gR 7 1 h v0).bind fun x24 => (gR 3 1 h x24).bind fun x25 => (f_X6_valueAt h x25 (y11 + v2)).bind fun y26 => some (.inl y26) else some (.inl (-1)) else b_X7_write_34 h 
def f_X7_write (h : HP) (v0 : Nat) (v1 : Int32) (v2 : Int32) (v3 : Int32) : Option (Int32 ⊕ String) := (kO 7 h v0).bind fun _ => b_X7_write_0 h v0 v1 v2 v3
theorem w_X7_write_34 {l : Launch} {X : SCR} {Q : PST} {bc bs : Nat} {res : Int32 ⊕ String} {h : HP} (hQ : ∀ sz', Q (outT res) h sz') (hlt : l.stackTraces = false) (hX2 : X.2 = some []) (hbc : 1 ≤ bc) (hbs : 6 ≤ bs) {sz : Nat} (hf : b_X7_write_34 h  = some res) : SP l X M_X7_write 34 [] [] h sz bc bs Q := by
  rw [b_X7_write_34] at hf
  obtain rfl := Option.some.inj hf
  exact sp_throwS (pc := 34) tr_RX7_55_176_59 hlt hX2 dX7_write_34 dX7_write_37 dX7_write_38 dX7_write_40 dX7_write_43 (by decide) (Nat.le_of_ble_eq_true rfl) hbc hbs hQ

theorem w_X7_write_0 {l : Launch} {X : SCR} {Q : PST} {bc bs : Nat} {res : Int32 ⊕ String} {h : HP} (hQ : ∀ sz', Q (outT res) h sz') (hlt : l.stackTraces = false) (hX2 : X.2 = some []) (hbc : 1 ≤ bc) (hbs : 6 ≤ bs) {v0 : Nat} {v1 : Int32} {v2 : Int32} {v3 : Int32} {sz : Nat} (hf : b_X7_write_0 h v0 v1 v2 v3  = some res) : SP l X M_X7_write 0 [(0, .ref v0), (1, .int v1), (2, .int v2), (3, .int v3)] [] h sz bc bs Q := by
  rw [b_X7_write_0] at hf
  refine sp_aload_n (pc := 0) dX7_write_0 0 rfl ?_
  obtain ⟨x1, ex1, hf⟩ := ob hf
  refine sp_gR (pc := 1) fl_RX7_24 dX7_write_1 ex1 ?_
  refine sp_iload_n (pc := 4) dX7_write_4 1 rfl ?_
  obtain ⟨y2, ey2, hf⟩ := ob hf
  obtain ⟨fsy2, hoy2⟩ := o_X3_isPlace ey2
  refine sp_callVi (pc := 5) (z := M_X3_isPlace) (As := [.int v1]) (b := x1) (bc2 := bc) (bs2 := bs) (m_X3_isPlace (Q := _) (fun sz => ⟨y2, rfl, ?_⟩) ey2) rfl dX7_write_5 hoy2 rfl rfl ck_X7_write_151 (Nat.le_of_ble_eq_true rfl) rfl rfl rfl
  refine sp_if_ne (pc := 8) (tgt := 21) dX7_write_8 (by decide) (fun c3 => ?_) (fun c3 => ?_)
  · rw [if_neg c3] at hf
    refine sp_iload_n (pc := 21) dX7_write_21 2 rfl ?_
    refine sp_if_lt (pc := 22) (tgt := 34) dX7_write_22 (by decide) (fun c4 => ?_) (fun c4 => ?_)
    · rw [if_pos c4] at hf
      exact sp_sub [] rfl (w_X7_write_34 hQ hlt hX2 hbc hbs hf)
    · rw [if_neg c4] at hf
      refine sp_iload_n (pc := 25) dX7_write_25 3 rfl ?_
      refine sp_if_lt (pc := 26) (tgt := 34) dX7_write_26 (by decide) (fun c5 => ?_) (fun c5 => ?_)
      · rw [if_pos c5] at hf
        exact sp_sub [] rfl (w_X7_write_34 hQ hlt hX2 hbc hbs hf)
      · rw [if_neg c5] at hf
        refine sp_iload_n (pc := 29) dX7_write_29 3 rfl ?_
        refine sp_iconst (pc := 30) (v := 3) dX7_write_30 (by decide) ?_
        refine sp_icmp_le (pc := 31) (tgt := 44) dX7_write_31 (by decide) (fun c6 => ?_) (fun c6 => ?_)
        · rw [if_pos c6] at hf
          refine sp_iload_n (pc := 44) dX7_write_44 2 rfl ?_
          refine sp_aload_n (pc := 45) dX7_write_45 0 rfl ?_
          obtain ⟨x7, ex7, hf⟩ := ob hf
          refine sp_gR (pc := 46) fl_RX7_24 dX7_write_46 ex7 ?_
          refine sp_iload_n (pc := 49) dX7_write_49 1 rfl ?_
          obtain ⟨y8, ey8, hf⟩ := ob hf
          obtain ⟨fsy8, hoy8⟩ := o_X3_sizeOf ey8
          refine sp_callVi (pc := 50) (z := M_X3_sizeOf) (As := [.int v1]) (b := x7) (bc2 := bc) (bs2 := bs) (m_X3_sizeOf (Q := _) (fun sz => ⟨y8, rfl, ?_⟩) ey8) rfl dX7_write_50 hoy8 rfl rfl ck_X7_write_101 (Nat.le_of_ble_eq_true rfl) rfl rfl rfl
          refine sp_icmp_lt (pc := 53) (tgt := 58) dX7_write_53 (by decide) (fun c9 => ?_) (fun c9 => ?_)
          · rw [if_pos c9] at hf
            refine sp_aload_n (pc := 58) dX7_write_58 0 rfl ?_
            obtain ⟨x10, ex10, hf⟩ := ob hf
            refine sp_gR (pc := 59) fl_RX7_24 dX7_write_59 ex10 ?_
            refine sp_iload_n (pc := 62) dX7_write_62 1 rfl ?_
            obtain ⟨y11, ey11, hf⟩ := ob hf
            obtain ⟨fsy11, hoy11⟩ := o_X3_startOf ey11
            refine sp_callVi (pc := 63) (z := M_X3_startOf) (As := [.int v1]) (b := x10) (bc2 := bc) (bs2 := bs) (m_X3_startOf (Q := _) (fun sz => ⟨y11, rfl, ?_⟩) ey11) rfl dX7_write_63 hoy11 rfl rfl ck_X7_write_156 (Nat.le_of_ble_eq_true rfl) rfl rfl rfl
            refine sp_iload_n (pc := 66) dX7_write_66 2 rfl ?_
            refine sp_iadd (pc := 67) dX7_write_67 ?_
            refine sp_istore (pc := 68) (lv' := [(4, .int (y11 + v2)), (0, .ref v0), (1, .int v1), (2, .int v2), (3, .int v3)]) dX7_write_68 (by decide) rfl ?_
            refine sp_iload_n (pc := 70) dX7_write_70 4 rfl ?_
            by_cases c12 : v3 = 0
            · rw [if_pos c12] at hf
              refine sp_tableIn (pc := 71) (off := 25) (tgt := 96) dX7_write_71 (by rw [c12]; decide) (by rw [c12]; decide) (by rw [c12]; rfl) (by decide) ?_
              refine sp_aload_n (pc := 96) dX7_write_96 1 rfl ?_
              obtain ⟨x13, ex13, hf⟩ := ob hf
              refine sp_gR (pc := 97) fl_RX7_24 dX7_write_97 ex13 ?_
              obtain ⟨x14, ex14, hf⟩ := ob hf
              refine sp_gR (pc := 100) fl_RX7_162 dX7_write_100 ex14 ?_
              refine sp_iload (pc := 103) dX7_write_103 0 rfl ?_
              obtain ⟨y15, ey15, hf⟩ := ob hf
              obtain ⟨fsy15, hoy15⟩ := o_X6_numberAt ey15
              refine sp_callVi (pc := 105) (z := M_X6_numberAt) (As := [.int (y11 + v2)]) (b := x14) (bc2 := bc) (bs2 := bs) (m_X6_numberAt (Q := _) (fun sz => ⟨y15, rfl, ?_⟩) ey15) rfl dX7_write_105 hoy15 rfl rfl ck_X7_write_166 (Nat.le_of_ble_eq_true rfl) rfl rfl rfl
              obtain rfl := Option.some.inj hf
              exact sp_ireturn (pc := 108) dX7_write_108 rfl rfl (hQ _)
            rw [if_neg c12] at hf
            by_cases c16 : v3 = 1
            · rw [if_pos c16] at hf
              refine sp_tableIn (pc := 71) (off := 38) (tgt := 109) dX7_write_71 (by rw [c16]; decide) (by rw [c16]; decide) (by rw [c16]; rfl) (by decide) ?_
              refine sp_aload_n (pc := 109) dX7_write_109 1 rfl ?_
              obtain ⟨x17, ex17, hf⟩ := ob hf
              refine sp_gR (pc := 110) fl_RX7_24 dX7_write_110 ex17 ?_
              obtain ⟨x18, ex18, hf⟩ := ob hf
              refine sp_gR (pc := 113) fl_RX7_162 dX7_write_113 ex18 ?_
              refine sp_iload (pc := 116) dX7_write_116 0 rfl ?_
              obtain ⟨y19, ey19, hf⟩ := ob hf
              obtain ⟨fsy19, hoy19⟩ := o_X6_firstAt ey19
              refine sp_callVi (pc := 118) (z := M_X6_firstAt) (As := [.int (y11 + v2)]) (b := x18) (bc2 := bc) (bs2 := bs) (m_X6_firstAt (Q := _) (fun sz => ⟨y19, rfl, ?_⟩) ey19) rfl dX7_write_118 hoy19 rfl rfl ck_X7_write_178 (Nat.le_of_ble_eq_true rfl) rfl rfl rfl
              obtain rfl := Option.some.inj hf
              exact sp_ireturn (pc := 121) dX7_write_121 rfl rfl (hQ _)
            rw [if_neg c16] at hf
            by_cases c20 : v3 = 2
            · rw [if_pos c20] at hf
              refine sp_tableIn (pc := 71) (off := 51) (tgt := 122) dX7_write_71 (by rw [c20]; decide) (by rw [c20]; decide) (by rw [c20]; rfl) (by decide) ?_
              refine sp_aload_n (pc := 122) dX7_write_122 1 rfl ?_
              obtain ⟨x21, ex21, hf⟩ := ob hf
              refine sp_gR (pc := 123) fl_RX7_24 dX7_write_123 ex21 ?_
              obtain ⟨x22, ex22, hf⟩ := ob hf
              refine sp_gR (pc := 126) fl_RX7_162 dX7_write_126 ex22 ?_
              refine sp_iload (pc := 129) dX7_write_129 0 rfl ?_
              obtain ⟨y23, ey23, hf⟩ := ob hf
              obtain ⟨fsy23, hoy23⟩ := o_X6_lastAt ey23
              refine sp_callVi (pc := 131) (z := M_X6_lastAt) (As := [.int (y11 + v2)]) (b := x22) (bc2 := bc) (bs2 := bs) (m_X6_lastAt (Q := _) (fun sz => ⟨y23, rfl, ?_⟩) ey23) rfl dX7_write_131 hoy23 rfl rfl ck_X7_write_181 (Nat.le_of_ble_eq_true rfl) rfl rfl rfl
              obtain rfl := Option.some.inj hf
              exact sp_ireturn (pc := 134) dX7_write_134 rfl rfl (hQ _)
            rw [if_neg c20] at hf
            refine sp_tableOut (pc := 71) (tgt := 135) dX7_write_71 (tbl_out (fun i h1 h2 he => ?_)) (by decide) ?_
            · rcases (show i = 0 ∨ i = 1 ∨ i = 2 by omega) with rfl | rfl | rfl
              · exact c12 (Int32.toInt_inj.mp (he.trans (by decide)))
              · exact c16 (Int32.toInt_inj.mp (he.trans (by decide)))
              · exact c20 (Int32.toInt_inj.mp (he.trans (by decide)))
            refine sp_aload_n (pc := 135) dX7_write_135 1 rfl ?_
            obtain ⟨x24, ex24, hf⟩ := ob hf
            refine sp_gR (pc := 136) fl_RX7_24 dX7_write_136 ex24 ?_
            obtain ⟨x25, ex25, hf⟩ := ob hf
            refine sp_gR (pc := 139) fl_RX7_162 dX7_write_139 ex25 ?_
            refine sp_iload (pc := 142) dX7_write_142 0 rfl ?_
            obtain ⟨y26, ey26, hf⟩ := ob hf
            obtain ⟨fsy26, hoy26⟩ := o_X6_valueAt ey26
            refine sp_callVi (pc := 144) (z := M_X6_valueAt) (As := [.int (y11 + v2)]) (b := x25) (bc2 := bc) (bs2 := bs) (m_X6_valueAt (Q := _) (fun sz => ⟨y26, rfl, ?_⟩) ey26) rfl dX7_write_144 hoy26 rfl rfl ck_X7_write_184 (Nat.le_of_ble_eq_true rfl) rfl rfl rfl
            obtain rfl := Option.some.inj hf
            exact sp_ireturn (pc := 147) dX7_write_147 rfl rfl (hQ _)
          · rw [if_neg c9] at hf
            refine sp_iconst (pc := 56) (v := (-1)) dX7_write_56 (by decide) ?_
            obtain rfl := Option.some.inj hf
            exact sp_ireturn (pc := 57) dX7_write_57 rfl rfl (hQ _)
        · rw [if_neg c6] at hf
          exact sp_sub [] rfl (w_X7_write_34 hQ hlt hX2 hbc hbs hf)
  · rw [if_pos c3] at hf
    obtain rfl := Option.some.inj hf
    exact sp_throwS (pc := 11) tr_RX7_140_154_144 hlt hX2 dX7_write_11 dX7_write_14 dX7_write_15 dX7_write_17 dX7_write_20 (by decide) (Nat.le_of_ble_eq_true rfl) hbc hbs hQ

theorem o_X7_write {h : HP} {v0 : Nat} {v1 : Int32} {v2 : Int32} {v3 : Int32} {res : Int32 ⊕ String} (hf : f_X7_write h v0 v1 v2 v3 = some res) : ∃ fs, h v0 = some (.inr (7, fs)) := by
  obtain ⟨u, eu, -⟩ := ob hf
  exact kO_spec eu

theorem m_X7_write {l : Launch} {Q : PST} {h : HP} {v0 : Nat} {v1 : Int32} {v2 : Int32} {v3 : Int32} {sz : Nat} {res : Int32 ⊕ String} (hQ : ∀ sz', Q (outT res) h sz') (hlt : l.stackTraces = false) (hf : f_X7_write h v0 v1 v2 v3 = some res) : MM l M_X7_write [.ref v0, .int v1, .int v2, .int v3] h sz Q := by
  obtain ⟨u, eu, hf⟩ := ob hf
  exact MM_of wok_X7_write (by decide +kernel) (Nat.le_of_ble_eq_true rfl) ((w_X7_write_0 hQ hlt rfl (by decide) (by decide) hf))

theorem dX7_eye_0 : decode (mB M_X7_eye) 0 = .ok (.aload_n 0, 1) := by decide +kernel
theorem dX7_eye_1 : decode (mB M_X7_eye) 1 = .ok (.getfield 24, 3) := by decide +kernel
theorem dX7_eye_4 : decode (mB M_X7_eye) 4 = .ok (.iload_n 1, 1) := by decide +kernel
theorem dX7_eye_5 : decode (mB M_X7_eye) 5 = .ok (.invokevirtual 187, 3) := by decide +kernel
theorem dX7_eye_8 : decode (mB M_X7_eye) 8 = .ok (.ifCond .ne 13, 3) := by decide +kernel
theorem dX7_eye_11 : decode (mB M_X7_eye) 11 = .ok (.new 140, 3) := by decide +kernel
theorem dX7_eye_14 : decode (mB M_X7_eye) 14 = .ok (.dup, 1) := by decide +kernel
theorem dX7_eye_15 : decode (mB M_X7_eye) 15 = .ok (.ldc 190, 2) := by decide +kernel
theorem dX7_eye_17 : decode (mB M_X7_eye) 17 = .ok (.invokespecial 144, 3) := by decide +kernel
theorem dX7_eye_20 : decode (mB M_X7_eye) 20 = .ok (.athrow, 1) := by decide +kernel
theorem dX7_eye_21 : decode (mB M_X7_eye) 21 = .ok (.aload_n 0, 1) := by decide +kernel
theorem dX7_eye_22 : decode (mB M_X7_eye) 22 = .ok (.getfield 24, 3) := by decide +kernel
theorem dX7_eye_25 : decode (mB M_X7_eye) 25 = .ok (.iload_n 1, 1) := by decide +kernel
theorem dX7_eye_26 : decode (mB M_X7_eye) 26 = .ok (.invokevirtual 145, 3) := by decide +kernel
theorem dX7_eye_29 : decode (mB M_X7_eye) 29 = .ok (.ireturn, 1) := by decide +kernel
def b_X7_eye_0 (h : HP) (v0 : Nat) (v1 : Int32) : Option (Int32 ⊕ String) :=
  (gR 7 1 h v0).bind fun x1 => (f_X3_isEye h x1 v1).bind fun y2 => if y2 = 0 then some (.inr "java/lang/IndexOutOfBoundsException") else (gR 7 1 h v0).bind fun x4 => (f_X3_limitOf h x4 v1).bind fun y5 => some (.inl y5)
def f_X7_eye (h : HP) (v0 : Nat) (v1 : Int32) : Option (Int32 ⊕ String) := (kO 7 h v0).bind fun _ => b_X7_eye_0 h v0 v1
theorem w_X7_eye_0 {l : Launch} {X : SCR} {Q : PST} {bc bs : Nat} {res : Int32 ⊕ String} {h : HP} (hQ : ∀ sz', Q (outT res) h sz') (hlt : l.stackTraces = false) (hX2 : X.2 = some []) (hbc : 1 ≤ bc) (hbs : 6 ≤ bs) {v0 : Nat} {v1 : Int32} {sz : Nat} (hf : b_X7_eye_0 h v0 v1  = some res) : SP l X M_X7_eye 0 [(0, .ref v0), (1, .int v1)] [] h sz bc bs Q := by
  rw [b_X7_eye_0] at hf
  refine sp_aload_n (pc := 0) dX7_eye_0 0 rfl ?_
  obtain ⟨x1, ex1, hf⟩ := ob hf
  refine sp_gR (pc := 1) fl_RX7_24 dX7_eye_1 ex1 ?_
  refine sp_iload_n (pc := 4) dX7_eye_4 1 rfl ?_
  obtain ⟨y2, ey2, hf⟩ := ob hf
  obtain ⟨fsy2, hoy2⟩ := o_X3_isEye ey2
  refine sp_callVi (pc := 5) (z := M_X3_isEye) (As := [.int v1]) (b := x1) (bc2 := bc) (bs2 := bs) (m_X3_isEye (Q := _) (fun sz => ⟨y2, rfl, ?_⟩) ey2) rfl dX7_eye_5 hoy2 rfl rfl ck_X7_eye_187 (Nat.le_of_ble_eq_true rfl) rfl rfl rfl
  refine sp_if_ne (pc := 8) (tgt := 21) dX7_eye_8 (by decide) (fun c3 => ?_) (fun c3 => ?_)
  · rw [if_neg c3] at hf
    refine sp_aload_n (pc := 21) dX7_eye_21 0 rfl ?_
    obtain ⟨x4, ex4, hf⟩ := ob hf
    refine sp_gR (pc := 22) fl_RX7_24 dX7_eye_22 ex4 ?_
    refine sp_iload_n (pc := 25) dX7_eye_25 1 rfl ?_
    obtain ⟨y5, ey5, hf⟩ := ob hf
    obtain ⟨fsy5, hoy5⟩ := o_X3_limitOf ey5
    refine sp_callVi (pc := 26) (z := M_X3_limitOf) (As := [.int v1]) (b := x4) (bc2 := bc) (bs2 := bs) (m_X3_limitOf (Q := _) (fun sz => ⟨y5, rfl, ?_⟩) ey5) rfl dX7_eye_26 hoy5 rfl rfl ck_X7_eye_145 (Nat.le_of_ble_eq_true rfl) rfl rfl rfl
    obtain rfl := Option.some.inj hf
    exact sp_ireturn (pc := 29) dX7_eye_29 rfl rfl (hQ _)
  · rw [if_pos c3] at hf
    obtain rfl := Option.some.inj hf
    exact sp_throwS (pc := 11) tr_RX7_140_190_144 hlt hX2 dX7_eye_11 dX7_eye_14 dX7_eye_15 dX7_eye_17 dX7_eye_20 (by decide) (Nat.le_of_ble_eq_true rfl) hbc hbs hQ

theorem o_X7_eye {h : HP} {v0 : Nat} {v1 : Int32} {res : Int32 ⊕ String} (hf : f_X7_eye h v0 v1 = some res) : ∃ fs, h v0 = some (.inr (7, fs)) := by
  obtain ⟨u, eu, -⟩ := ob hf
  exact kO_spec eu

theorem m_X7_eye {l : Launch} {Q : PST} {h : HP} {v0 : Nat} {v1 : Int32} {sz : Nat} {res : Int32 ⊕ String} (hQ : ∀ sz', Q (outT res) h sz') (hlt : l.stackTraces = false) (hf : f_X7_eye h v0 v1 = some res) : MM l M_X7_eye [.ref v0, .int v1] h sz Q := by
  obtain ⟨u, eu, hf⟩ := ob hf
  exact MM_of wok_X7_eye (by decide +kernel) (Nat.le_of_ble_eq_true rfl) ((w_X7_eye_0 hQ hlt rfl (by decide) (by decide) hf))

theorem dX7_put_0 : decode (mB M_X7_put) 0 = .ok (.iload_n 1, 1) := by decide +kernel
theorem dX7_put_1 : decode (mB M_X7_put) 1 = .ok (.invokestatic 134, 3) := by decide +kernel
theorem dX7_put_4 : decode (mB M_X7_put) 4 = .ok (.ifCond .ne 13, 3) := by decide +kernel
theorem dX7_put_7 : decode (mB M_X7_put) 7 = .ok (.new 140, 3) := by decide +kernel
theorem dX7_put_10 : decode (mB M_X7_put) 10 = .ok (.dup, 1) := by decide +kernel
theorem dX7_put_11 : decode (mB M_X7_put) 11 = .ok (.ldc 192, 2) := by decide +kernel
theorem dX7_put_13 : decode (mB M_X7_put) 13 = .ok (.invokespecial 144, 3) := by decide +kernel
theorem dX7_put_16 : decode (mB M_X7_put) 16 = .ok (.athrow, 1) := by decide +kernel
theorem dX7_put_17 : decode (mB M_X7_put) 17 = .ok (.iload_n 2, 1) := by decide +kernel
theorem dX7_put_18 : decode (mB M_X7_put) 18 = .ok (.invokestatic 194, 3) := by decide +kernel
theorem dX7_put_21 : decode (mB M_X7_put) 21 = .ok (.ifCond .ne 13, 3) := by decide +kernel
theorem dX7_put_24 : decode (mB M_X7_put) 24 = .ok (.new 55, 3) := by decide +kernel
theorem dX7_put_27 : decode (mB M_X7_put) 27 = .ok (.dup, 1) := by decide +kernel
theorem dX7_put_28 : decode (mB M_X7_put) 28 = .ok (.ldc 197, 2) := by decide +kernel
theorem dX7_put_30 : decode (mB M_X7_put) 30 = .ok (.invokespecial 59, 3) := by decide +kernel
theorem dX7_put_33 : decode (mB M_X7_put) 33 = .ok (.athrow, 1) := by decide +kernel
theorem dX7_put_34 : decode (mB M_X7_put) 34 = .ok (.aload_n 0, 1) := by decide +kernel
theorem dX7_put_35 : decode (mB M_X7_put) 35 = .ok (.getfield 24, 3) := by decide +kernel
theorem dX7_put_38 : decode (mB M_X7_put) 38 = .ok (.invokevirtual 199, 3) := by decide +kernel
theorem dX7_put_41 : decode (mB M_X7_put) 41 = .ok (.ifCond .eq 13, 3) := by decide +kernel
theorem dX7_put_44 : decode (mB M_X7_put) 44 = .ok (.new 66, 3) := by decide +kernel
theorem dX7_put_47 : decode (mB M_X7_put) 47 = .ok (.dup, 1) := by decide +kernel
theorem dX7_put_48 : decode (mB M_X7_put) 48 = .ok (.ldc 200, 2) := by decide +kernel
theorem dX7_put_50 : decode (mB M_X7_put) 50 = .ok (.invokespecial 70, 3) := by decide +kernel
theorem dX7_put_53 : decode (mB M_X7_put) 53 = .ok (.athrow, 1) := by decide +kernel
theorem dX7_put_54 : decode (mB M_X7_put) 54 = .ok (.aload_n 0, 1) := by decide +kernel
theorem dX7_put_55 : decode (mB M_X7_put) 55 = .ok (.getfield 36, 3) := by decide +kernel
theorem dX7_put_58 : decode (mB M_X7_put) 58 = .ok (.aload_n 0, 1) := by decide +kernel
theorem dX7_put_59 : decode (mB M_X7_put) 59 = .ok (.getfield 24, 3) := by decide +kernel
theorem dX7_put_62 : decode (mB M_X7_put) 62 = .ok (.invokevirtual 202, 3) := by decide +kernel
theorem dX7_put_65 : decode (mB M_X7_put) 65 = .ok (.aload_n 0, 1) := by decide +kernel
theorem dX7_put_66 : decode (mB M_X7_put) 66 = .ok (.getfield 24, 3) := by decide +kernel
theorem dX7_put_69 : decode (mB M_X7_put) 69 = .ok (.iload_n 1, 1) := by decide +kernel
theorem dX7_put_70 : decode (mB M_X7_put) 70 = .ok (.iload_n 1, 1) := by decide +kernel
theorem dX7_put_71 : decode (mB M_X7_put) 71 = .ok (.iload_n 2, 1) := by decide +kernel
theorem dX7_put_72 : decode (mB M_X7_put) 72 = .ok (.invokevirtual 206, 3) := by decide +kernel
theorem dX7_put_75 : decode (mB M_X7_put) 75 = .ok (.aload_n 0, 1) := by decide +kernel
theorem dX7_put_76 : decode (mB M_X7_put) 76 = .ok (.getfield 24, 3) := by decide +kernel
theorem dX7_put_79 : decode (mB M_X7_put) 79 = .ok (.invokevirtual 98, 3) := by decide +kernel
theorem dX7_put_82 : decode (mB M_X7_put) 82 = .ok (.ireturn, 1) := by decide +kernel
def b_X7_put_0 (v0 : Nat) (v1 : Int32) (v2 : Int32) (h : HP) : Option ((Int32 ⊕ String) × HP) :=
  (f_X7_isKey h v1).bind fun y1 => if y1 = 0 then some (.inr "java/lang/IndexOutOfBoundsException", h) else (f_X7_isValue h v2).bind fun y3 => if y3 = 0 then some (.inr "java/lang/IllegalArgumentException", h) else (gR 7 1 h v0).bind fun x5 => (f_X3_isFull h x5).bind fun y6 => if y6 = 0 then (gR 7 3 h v0).bind fun x8 => (gR 7 1 h v0).bind fun x9 => (f_X1_remember h x8 x9).bind fun y10 => (gR 7 1 y10 v0).bind fun x11 => (f_X3_addWrite y10 x11 v1 v1 v2).bind fun y12 => (gR 7 1 y12 v0).bind fun x13 => (f_X3_latest y12 x13).bind fun y14 => some (.inl y14, y12) else some (.inr "java/lang/IllegalStateException", h)
def f_X7_put (h : HP) (v0 : Nat) (v1 : Int32) (v2 : Int32) : Option ((Int32 ⊕ String) × HP) := (kO 7 h v0).bind fun _ => b_X7_put_0 v0 v1 v2 h
theorem w_X7_put_0 {l : Launch} {X : SCR} {Q : PST} {bc bs : Nat} {res : (Int32 ⊕ String) × HP} {h : HP} (hQ : ∀ sz', Q (outT res.1) res.2 sz') (hlt : l.stackTraces = false) (hX2 : X.2 = some []) (hbc : 1 ≤ bc) (hbs : 6 ≤ bs) {v0 : Nat} {v1 : Int32} {v2 : Int32} {sz : Nat} (hf : b_X7_put_0 v0 v1 v2 h  = some res) : SP l X M_X7_put 0 [(0, .ref v0), (1, .int v1), (2, .int v2)] [] h sz bc bs Q := by
  rw [b_X7_put_0] at hf
  refine sp_iload_n (pc := 0) dX7_put_0 1 rfl ?_
  obtain ⟨y1, ey1, hf⟩ := ob hf
  refine sp_callSi (pc := 1) (z := M_X7_isKey) (As := [.int v1]) (bc2 := bc) (bs2 := bs) (m_X7_isKey (Q := _) (fun sz => ⟨y1, rfl, ?_⟩) ey1) rfl dX7_put_1 rfl ck_X7_put_134 (Nat.le_of_ble_eq_true rfl) rfl rfl rfl
  refine sp_if_ne (pc := 4) (tgt := 17) dX7_put_4 (by decide) (fun c2 => ?_) (fun c2 => ?_)
  · rw [if_neg c2] at hf
    refine sp_iload_n (pc := 17) dX7_put_17 2 rfl ?_
    obtain ⟨y3, ey3, hf⟩ := ob hf
    refine sp_callSi (pc := 18) (z := M_X7_isValue) (As := [.int v2]) (bc2 := bc) (bs2 := bs) (m_X7_isValue (Q := _) (fun sz => ⟨y3, rfl, ?_⟩) ey3) rfl dX7_put_18 rfl ck_X7_put_194 (Nat.le_of_ble_eq_true rfl) rfl rfl rfl
    refine sp_if_ne (pc := 21) (tgt := 34) dX7_put_21 (by decide) (fun c4 => ?_) (fun c4 => ?_)
    · rw [if_neg c4] at hf
      refine sp_aload_n (pc := 34) dX7_put_34 0 rfl ?_
      obtain ⟨x5, ex5, hf⟩ := ob hf
      refine sp_gR (pc := 35) fl_RX7_24 dX7_put_35 ex5 ?_
      obtain ⟨y6, ey6, hf⟩ := ob hf
      obtain ⟨fsy6, hoy6⟩ := o_X3_isFull ey6
      refine sp_callVi (pc := 38) (z := M_X3_isFull) (As := []) (b := x5) (bc2 := bc) (bs2 := bs) (m_X3_isFull (Q := _) (fun sz => ⟨y6, rfl, ?_⟩) ey6) rfl dX7_put_38 hoy6 rfl rfl ck_X7_put_199 (Nat.le_of_ble_eq_true rfl) rfl rfl rfl
      refine sp_if_eq (pc := 41) (tgt := 54) dX7_put_41 (by decide) (fun c7 => ?_) (fun c7 => ?_)
      · rw [if_pos c7] at hf
        refine sp_aload_n (pc := 54) dX7_put_54 0 rfl ?_
        obtain ⟨x8, ex8, hf⟩ := ob hf
        refine sp_gR (pc := 55) fl_RX7_36 dX7_put_55 ex8 ?_
        refine sp_aload_n (pc := 58) dX7_put_58 0 rfl ?_
        obtain ⟨x9, ex9, hf⟩ := ob hf
        refine sp_gR (pc := 59) fl_RX7_24 dX7_put_59 ex9 ?_
        obtain ⟨y10, ey10, hf⟩ := ob hf
        obtain ⟨fsy10, hoy10⟩ := o_X1_remember ey10
        refine sp_callVv (pc := 62) (z := M_X1_remember) (As := [.ref x9]) (b := x8) (bc2 := bc) (bs2 := bs) (m_X1_remember (Q := _) (fun sz => ⟨(), rfl, ?_⟩) ey10) rfl dX7_put_62 hoy10 rfl rfl ck_X7_put_202 (Nat.le_of_ble_eq_true rfl) rfl rfl rfl
        refine sp_aload_n (pc := 65) dX7_put_65 0 rfl ?_
        obtain ⟨x11, ex11, hf⟩ := ob hf
        refine sp_gR (pc := 66) fl_RX7_24 dX7_put_66 ex11 ?_
        refine sp_iload_n (pc := 69) dX7_put_69 1 rfl ?_
        refine sp_iload_n (pc := 70) dX7_put_70 1 rfl ?_
        refine sp_iload_n (pc := 71) dX7_put_71 2 rfl ?_
        obtain ⟨y12, ey12, hf⟩ := ob hf
        obtain ⟨fsy12, hoy12⟩ := o_X3_addWrite ey12
        refine sp_callVv (pc := 72) (z := M_X3_addWrite) (As := [.int v1, .int v1, .int v2]) (b := x11) (bc2 := bc) (bs2 := bs) (m_X3_addWrite (Q := _) (fun sz => ⟨(), rfl, ?_⟩) ey12) rfl dX7_put_72 hoy12 rfl rfl ck_X7_put_206 (Nat.le_of_ble_eq_true rfl) rfl rfl rfl
        refine sp_aload_n (pc := 75) dX7_put_75 0 rfl ?_
        obtain ⟨x13, ex13, hf⟩ := ob hf
        refine sp_gR (pc := 76) fl_RX7_24 dX7_put_76 ex13 ?_
        obtain ⟨y14, ey14, hf⟩ := ob hf
        obtain ⟨fsy14, hoy14⟩ := o_X3_latest ey14
        refine sp_callVi (pc := 79) (z := M_X3_latest) (As := []) (b := x13) (bc2 := bc) (bs2 := bs) (m_X3_latest (Q := _) (fun sz => ⟨y14, rfl, ?_⟩) ey14) rfl dX7_put_79 hoy14 rfl rfl ck_X7_put_98 (Nat.le_of_ble_eq_true rfl) rfl rfl rfl
        obtain rfl := Option.some.inj hf
        exact sp_ireturn (pc := 82) dX7_put_82 rfl rfl (hQ _)
      · rw [if_neg c7] at hf
        obtain rfl := Option.some.inj hf
        exact sp_throwS (pc := 44) tr_RX7_66_200_70 hlt hX2 dX7_put_44 dX7_put_47 dX7_put_48 dX7_put_50 dX7_put_53 (by decide) (Nat.le_of_ble_eq_true rfl) hbc hbs hQ
    · rw [if_pos c4] at hf
      obtain rfl := Option.some.inj hf
      exact sp_throwS (pc := 24) tr_RX7_55_197_59 hlt hX2 dX7_put_24 dX7_put_27 dX7_put_28 dX7_put_30 dX7_put_33 (by decide) (Nat.le_of_ble_eq_true rfl) hbc hbs hQ
  · rw [if_pos c2] at hf
    obtain rfl := Option.some.inj hf
    exact sp_throwS (pc := 7) tr_RX7_140_192_144 hlt hX2 dX7_put_7 dX7_put_10 dX7_put_11 dX7_put_13 dX7_put_16 (by decide) (Nat.le_of_ble_eq_true rfl) hbc hbs hQ

theorem o_X7_put {h : HP} {v0 : Nat} {v1 : Int32} {v2 : Int32} {res : (Int32 ⊕ String) × HP} (hf : f_X7_put h v0 v1 v2 = some res) : ∃ fs, h v0 = some (.inr (7, fs)) := by
  obtain ⟨u, eu, -⟩ := ob hf
  exact kO_spec eu

theorem m_X7_put {l : Launch} {Q : PST} {h : HP} {v0 : Nat} {v1 : Int32} {v2 : Int32} {sz : Nat} {res : (Int32 ⊕ String) × HP} (hQ : ∀ sz', Q (outT res.1) res.2 sz') (hlt : l.stackTraces = false) (hf : f_X7_put h v0 v1 v2 = some res) : MM l M_X7_put [.ref v0, .int v1, .int v2] h sz Q := by
  obtain ⟨u, eu, hf⟩ := ob hf
  exact MM_of wok_X7_put (by decide +kernel) (Nat.le_of_ble_eq_true rfl) ((w_X7_put_0 hQ hlt rfl (by decide) (by decide) hf))

theorem dX7_bury_0 : decode (mB M_X7_bury) 0 = .ok (.iload_n 1, 1) := by decide +kernel
theorem dX7_bury_1 : decode (mB M_X7_bury) 1 = .ok (.invokestatic 134, 3) := by decide +kernel
theorem dX7_bury_4 : decode (mB M_X7_bury) 4 = .ok (.ifCond .eq 10, 3) := by decide +kernel
theorem dX7_bury_7 : decode (mB M_X7_bury) 7 = .ok (.iload_n 2, 1) := by decide +kernel
theorem dX7_bury_8 : decode (mB M_X7_bury) 8 = .ok (.invokestatic 134, 3) := by decide +kernel
theorem dX7_bury_11 : decode (mB M_X7_bury) 11 = .ok (.ifCond .ne 13, 3) := by decide +kernel
theorem dX7_bury_14 : decode (mB M_X7_bury) 14 = .ok (.new 140, 3) := by decide +kernel
theorem dX7_bury_17 : decode (mB M_X7_bury) 17 = .ok (.dup, 1) := by decide +kernel
theorem dX7_bury_18 : decode (mB M_X7_bury) 18 = .ok (.ldc 192, 2) := by decide +kernel
theorem dX7_bury_20 : decode (mB M_X7_bury) 20 = .ok (.invokespecial 144, 3) := by decide +kernel
theorem dX7_bury_23 : decode (mB M_X7_bury) 23 = .ok (.athrow, 1) := by decide +kernel
theorem dX7_bury_24 : decode (mB M_X7_bury) 24 = .ok (.iload_n 2, 1) := by decide +kernel
theorem dX7_bury_25 : decode (mB M_X7_bury) 25 = .ok (.iload_n 1, 1) := by decide +kernel
theorem dX7_bury_26 : decode (mB M_X7_bury) 26 = .ok (.if_icmp .ge 13, 3) := by decide +kernel
theorem dX7_bury_29 : decode (mB M_X7_bury) 29 = .ok (.new 55, 3) := by decide +kernel
theorem dX7_bury_32 : decode (mB M_X7_bury) 32 = .ok (.dup, 1) := by decide +kernel
theorem dX7_bury_33 : decode (mB M_X7_bury) 33 = .ok (.ldc 210, 2) := by decide +kernel
theorem dX7_bury_35 : decode (mB M_X7_bury) 35 = .ok (.invokespecial 59, 3) := by decide +kernel
theorem dX7_bury_38 : decode (mB M_X7_bury) 38 = .ok (.athrow, 1) := by decide +kernel
theorem dX7_bury_39 : decode (mB M_X7_bury) 39 = .ok (.aload_n 0, 1) := by decide +kernel
theorem dX7_bury_40 : decode (mB M_X7_bury) 40 = .ok (.getfield 24, 3) := by decide +kernel
theorem dX7_bury_43 : decode (mB M_X7_bury) 43 = .ok (.invokevirtual 199, 3) := by decide +kernel
theorem dX7_bury_46 : decode (mB M_X7_bury) 46 = .ok (.ifCond .eq 13, 3) := by decide +kernel
theorem dX7_bury_49 : decode (mB M_X7_bury) 49 = .ok (.new 66, 3) := by decide +kernel
theorem dX7_bury_52 : decode (mB M_X7_bury) 52 = .ok (.dup, 1) := by decide +kernel
theorem dX7_bury_53 : decode (mB M_X7_bury) 53 = .ok (.ldc 200, 2) := by decide +kernel
theorem dX7_bury_55 : decode (mB M_X7_bury) 55 = .ok (.invokespecial 70, 3) := by decide +kernel
theorem dX7_bury_58 : decode (mB M_X7_bury) 58 = .ok (.athrow, 1) := by decide +kernel
theorem dX7_bury_59 : decode (mB M_X7_bury) 59 = .ok (.aload_n 0, 1) := by decide +kernel
theorem dX7_bury_60 : decode (mB M_X7_bury) 60 = .ok (.getfield 36, 3) := by decide +kernel
theorem dX7_bury_63 : decode (mB M_X7_bury) 63 = .ok (.aload_n 0, 1) := by decide +kernel
theorem dX7_bury_64 : decode (mB M_X7_bury) 64 = .ok (.getfield 24, 3) := by decide +kernel
theorem dX7_bury_67 : decode (mB M_X7_bury) 67 = .ok (.invokevirtual 202, 3) := by decide +kernel
theorem dX7_bury_70 : decode (mB M_X7_bury) 70 = .ok (.aload_n 0, 1) := by decide +kernel
theorem dX7_bury_71 : decode (mB M_X7_bury) 71 = .ok (.getfield 51, 3) := by decide +kernel
theorem dX7_bury_74 : decode (mB M_X7_bury) 74 = .ok (.aload_n 0, 1) := by decide +kernel
theorem dX7_bury_75 : decode (mB M_X7_bury) 75 = .ok (.getfield 24, 3) := by decide +kernel
theorem dX7_bury_78 : decode (mB M_X7_bury) 78 = .ok (.aload_n 0, 1) := by decide +kernel
theorem dX7_bury_79 : decode (mB M_X7_bury) 79 = .ok (.getfield 24, 3) := by decide +kernel
theorem dX7_bury_82 : decode (mB M_X7_bury) 82 = .ok (.invokevirtual 98, 3) := by decide +kernel
theorem dX7_bury_85 : decode (mB M_X7_bury) 85 = .ok (.invokevirtual 122, 3) := by decide +kernel
theorem dX7_bury_88 : decode (mB M_X7_bury) 88 = .ok (.aload_n 0, 1) := by decide +kernel
theorem dX7_bury_89 : decode (mB M_X7_bury) 89 = .ok (.getfield 24, 3) := by decide +kernel
theorem dX7_bury_92 : decode (mB M_X7_bury) 92 = .ok (.iload_n 1, 1) := by decide +kernel
theorem dX7_bury_93 : decode (mB M_X7_bury) 93 = .ok (.iload_n 2, 1) := by decide +kernel
theorem dX7_bury_94 : decode (mB M_X7_bury) 94 = .ok (.iconst 0, 1) := by decide +kernel
theorem dX7_bury_95 : decode (mB M_X7_bury) 95 = .ok (.invokevirtual 206, 3) := by decide +kernel
theorem dX7_bury_98 : decode (mB M_X7_bury) 98 = .ok (.aload_n 0, 1) := by decide +kernel
theorem dX7_bury_99 : decode (mB M_X7_bury) 99 = .ok (.getfield 51, 3) := by decide +kernel
theorem dX7_bury_102 : decode (mB M_X7_bury) 102 = .ok (.iload_n 1, 1) := by decide +kernel
theorem dX7_bury_103 : decode (mB M_X7_bury) 103 = .ok (.iload_n 2, 1) := by decide +kernel
theorem dX7_bury_104 : decode (mB M_X7_bury) 104 = .ok (.invokevirtual 212, 3) := by decide +kernel
theorem dX7_bury_107 : decode (mB M_X7_bury) 107 = .ok (.ireturn, 1) := by decide +kernel
def b_X7_bury_14 (h : HP) : Option ((Int32 ⊕ String) × HP) :=
  some (.inr "java/lang/IndexOutOfBoundsException", h)
def b_X7_bury_0 (v0 : Nat) (v1 : Int32) (v2 : Int32) (h : HP) : Option ((Int32 ⊕ String) × HP) :=
  (f_X7_isKey h v1).bind fun y1 => if y1 = 0 then b_X7_bury_14 h else (f_X7_isKey h v2).bind fun y3 => if y3 = 0 then b_X7_bury_14 h else if v1 ≤ v2 then (gR 7 1 h v0).bind fun x6 => (f_X3_isFull h x6).bind fun y7 => if y7 = 0 then (gR 7 3 h v0).bind fun x9 => (gR 7 1 h v0).bind fun x10 => (f_X1_remember h x9 x10).bind fun y11 => (gR 7 6 y11 v0).bind fun x12 => (gR 7 1 y11 v0).bind fun x13 => (gR 7 1 y11 v0).bind fun x14 => (f_X3_latest y11 x14).bind fun y15 => (f_X5_look y11 x12 x13 y15).bind fun y16 => (gR 7 1 y16 v0).bind fun x17 => (f_X3_addWrite y16 x17 v1 v2 0).bind fun y18 => (gR 7 6 y18 v0).bind fun x19 => (f_X5_seenIn y18 x19 v1 v2).bind fun y20 => some (.inl y20, y18) else some (.inr "java/lang/IllegalStateException", h) else some (.inr "java/lang/IllegalArgumentException", h)
def f_X7_bury (h : HP) (v0 : Nat) (v1 : Int32) (v2 : Int32) : Option ((Int32 ⊕ String) × HP) := (kO 7 h v0).bind fun _ => b_X7_bury_0 v0 v1 v2 h
theorem w_X7_bury_14 {l : Launch} {X : SCR} {Q : PST} {bc bs : Nat} {res : (Int32 ⊕ String) × HP} {h : HP} (hQ : ∀ sz', Q (outT res.1) res.2 sz') (hlt : l.stackTraces = false) (hX2 : X.2 = some []) (hbc : 1 ≤ bc) (hbs : 6 ≤ bs) {sz : Nat} (hf : b_X7_bury_14 h  = some res) : SP l X M_X7_bury 14 [] [] h sz bc bs Q := by
  rw [b_X7_bury_14] at hf
  obtain rfl := Option.some.inj hf
  exact sp_throwS (pc := 14) tr_RX7_140_192_144 hlt hX2 dX7_bury_14 dX7_bury_17 dX7_bury_18 dX7_bury_20 dX7_bury_23 (by decide) (Nat.le_of_ble_eq_true rfl) hbc hbs hQ

theorem w_X7_bury_0 {l : Launch} {X : SCR} {Q : PST} {bc bs : Nat} {res : (Int32 ⊕ String) × HP} {h : HP} (hQ : ∀ sz', Q (outT res.1) res.2 sz') (hlt : l.stackTraces = false) (hX2 : X.2 = some []) (hbc : 1 ≤ bc) (hbs : 6 ≤ bs) {v0 : Nat} {v1 : Int32} {v2 : Int32} {sz : Nat} (hf : b_X7_bury_0 v0 v1 v2 h  = some res) : SP l X M_X7_bury 0 [(0, .ref v0), (1, .int v1), (2, .int v2)] [] h sz bc bs Q := by
  rw [b_X7_bury_0] at hf
  refine sp_iload_n (pc := 0) dX7_bury_0 1 rfl ?_
  obtain ⟨y1, ey1, hf⟩ := ob hf
  refine sp_callSi (pc := 1) (z := M_X7_isKey) (As := [.int v1]) (bc2 := bc) (bs2 := bs) (m_X7_isKey (Q := _) (fun sz => ⟨y1, rfl, ?_⟩) ey1) rfl dX7_bury_1 rfl ck_X7_bury_134 (Nat.le_of_ble_eq_true rfl) rfl rfl rfl
  refine sp_if_eq (pc := 4) (tgt := 14) dX7_bury_4 (by decide) (fun c2 => ?_) (fun c2 => ?_)
  · rw [if_pos c2] at hf
    exact sp_sub [] rfl (w_X7_bury_14 hQ hlt hX2 hbc hbs hf)
  · rw [if_neg c2] at hf
    refine sp_iload_n (pc := 7) dX7_bury_7 2 rfl ?_
    obtain ⟨y3, ey3, hf⟩ := ob hf
    refine sp_callSi (pc := 8) (z := M_X7_isKey) (As := [.int v2]) (bc2 := bc) (bs2 := bs) (m_X7_isKey (Q := _) (fun sz => ⟨y3, rfl, ?_⟩) ey3) rfl dX7_bury_8 rfl ck_X7_bury_134 (Nat.le_of_ble_eq_true rfl) rfl rfl rfl
    refine sp_if_ne (pc := 11) (tgt := 24) dX7_bury_11 (by decide) (fun c4 => ?_) (fun c4 => ?_)
    · rw [if_neg c4] at hf
      refine sp_iload_n (pc := 24) dX7_bury_24 2 rfl ?_
      refine sp_iload_n (pc := 25) dX7_bury_25 1 rfl ?_
      refine sp_icmp_ge (pc := 26) (tgt := 39) dX7_bury_26 (by decide) (fun c5 => ?_) (fun c5 => ?_)
      · rw [if_pos c5] at hf
        refine sp_aload_n (pc := 39) dX7_bury_39 0 rfl ?_
        obtain ⟨x6, ex6, hf⟩ := ob hf
        refine sp_gR (pc := 40) fl_RX7_24 dX7_bury_40 ex6 ?_
        obtain ⟨y7, ey7, hf⟩ := ob hf
        obtain ⟨fsy7, hoy7⟩ := o_X3_isFull ey7
        refine sp_callVi (pc := 43) (z := M_X3_isFull) (As := []) (b := x6) (bc2 := bc) (bs2 := bs) (m_X3_isFull (Q := _) (fun sz => ⟨y7, rfl, ?_⟩) ey7) rfl dX7_bury_43 hoy7 rfl rfl ck_X7_bury_199 (Nat.le_of_ble_eq_true rfl) rfl rfl rfl
        refine sp_if_eq (pc := 46) (tgt := 59) dX7_bury_46 (by decide) (fun c8 => ?_) (fun c8 => ?_)
        · rw [if_pos c8] at hf
          refine sp_aload_n (pc := 59) dX7_bury_59 0 rfl ?_
          obtain ⟨x9, ex9, hf⟩ := ob hf
          refine sp_gR (pc := 60) fl_RX7_36 dX7_bury_60 ex9 ?_
          refine sp_aload_n (pc := 63) dX7_bury_63 0 rfl ?_
          obtain ⟨x10, ex10, hf⟩ := ob hf
          refine sp_gR (pc := 64) fl_RX7_24 dX7_bury_64 ex10 ?_
          obtain ⟨y11, ey11, hf⟩ := ob hf
          obtain ⟨fsy11, hoy11⟩ := o_X1_remember ey11
          refine sp_callVv (pc := 67) (z := M_X1_remember) (As := [.ref x10]) (b := x9) (bc2 := bc) (bs2 := bs) (m_X1_remember (Q := _) (fun sz => ⟨(), rfl, ?_⟩) ey11) rfl dX7_bury_67 hoy11 rfl rfl ck_X7_bury_202 (Nat.le_of_ble_eq_true rfl) rfl rfl rfl
          refine sp_aload_n (pc := 70) dX7_bury_70 0 rfl ?_
          obtain ⟨x12, ex12, hf⟩ := ob hf
          refine sp_gR (pc := 71) fl_RX7_51 dX7_bury_71 ex12 ?_
          refine sp_aload_n (pc := 74) dX7_bury_74 0 rfl ?_
          obtain ⟨x13, ex13, hf⟩ := ob hf
          refine sp_gR (pc := 75) fl_RX7_24 dX7_bury_75 ex13 ?_
          refine sp_aload_n (pc := 78) dX7_bury_78 0 rfl ?_
          obtain ⟨x14, ex14, hf⟩ := ob hf
          refine sp_gR (pc := 79) fl_RX7_24 dX7_bury_79 ex14 ?_
          obtain ⟨y15, ey15, hf⟩ := ob hf
          obtain ⟨fsy15, hoy15⟩ := o_X3_latest ey15
          refine sp_callVi (pc := 82) (z := M_X3_latest) (As := []) (b := x14) (bc2 := bc) (bs2 := bs) (m_X3_latest (Q := _) (fun sz => ⟨y15, rfl, ?_⟩) ey15) rfl dX7_bury_82 hoy15 rfl rfl ck_X7_bury_98 (Nat.le_of_ble_eq_true rfl) rfl rfl rfl
          obtain ⟨y16, ey16, hf⟩ := ob hf
          obtain ⟨fsy16, hoy16⟩ := o_X5_look ey16
          refine sp_callVv (pc := 85) (z := M_X5_look) (As := [.ref x13, .int y15]) (b := x12) (bc2 := bc) (bs2 := bs) (m_X5_look (Q := _) (fun sz => ⟨(), rfl, ?_⟩) ey16) rfl dX7_bury_85 hoy16 rfl rfl ck_X7_bury_122 (Nat.le_of_ble_eq_true rfl) rfl rfl rfl
          refine sp_aload_n (pc := 88) dX7_bury_88 0 rfl ?_
          obtain ⟨x17, ex17, hf⟩ := ob hf
          refine sp_gR (pc := 89) fl_RX7_24 dX7_bury_89 ex17 ?_
          refine sp_iload_n (pc := 92) dX7_bury_92 1 rfl ?_
          refine sp_iload_n (pc := 93) dX7_bury_93 2 rfl ?_
          refine sp_iconst (pc := 94) (v := 0) dX7_bury_94 (by decide) ?_
          obtain ⟨y18, ey18, hf⟩ := ob hf
          obtain ⟨fsy18, hoy18⟩ := o_X3_addWrite ey18
          refine sp_callVv (pc := 95) (z := M_X3_addWrite) (As := [.int v1, .int v2, .int 0]) (b := x17) (bc2 := bc) (bs2 := bs) (m_X3_addWrite (Q := _) (fun sz => ⟨(), rfl, ?_⟩) ey18) rfl dX7_bury_95 hoy18 rfl rfl ck_X7_bury_206 (Nat.le_of_ble_eq_true rfl) rfl rfl rfl
          refine sp_aload_n (pc := 98) dX7_bury_98 0 rfl ?_
          obtain ⟨x19, ex19, hf⟩ := ob hf
          refine sp_gR (pc := 99) fl_RX7_51 dX7_bury_99 ex19 ?_
          refine sp_iload_n (pc := 102) dX7_bury_102 1 rfl ?_
          refine sp_iload_n (pc := 103) dX7_bury_103 2 rfl ?_
          obtain ⟨y20, ey20, hf⟩ := ob hf
          obtain ⟨fsy20, hoy20⟩ := o_X5_seenIn ey20
          refine sp_callVi (pc := 104) (z := M_X5_seenIn) (As := [.int v1, .int v2]) (b := x19) (bc2 := bc) (bs2 := bs) (m_X5_seenIn (Q := _) (fun sz => ⟨y20, rfl, ?_⟩) ey20) rfl dX7_bury_104 hoy20 rfl rfl ck_X7_bury_212 (Nat.le_of_ble_eq_true rfl) rfl rfl rfl
          obtain rfl := Option.some.inj hf
          exact sp_ireturn (pc := 107) dX7_bury_107 rfl rfl (hQ _)
        · rw [if_neg c8] at hf
          obtain rfl := Option.some.inj hf
          exact sp_throwS (pc := 49) tr_RX7_66_200_70 hlt hX2 dX7_bury_49 dX7_bury_52 dX7_bury_53 dX7_bury_55 dX7_bury_58 (by decide) (Nat.le_of_ble_eq_true rfl) hbc hbs hQ
      · rw [if_neg c5] at hf
        obtain rfl := Option.some.inj hf
        exact sp_throwS (pc := 29) tr_RX7_55_210_59 hlt hX2 dX7_bury_29 dX7_bury_32 dX7_bury_33 dX7_bury_35 dX7_bury_38 (by decide) (Nat.le_of_ble_eq_true rfl) hbc hbs hQ
    · rw [if_pos c4] at hf
      exact sp_sub [] rfl (w_X7_bury_14 hQ hlt hX2 hbc hbs hf)

theorem o_X7_bury {h : HP} {v0 : Nat} {v1 : Int32} {v2 : Int32} {res : (Int32 ⊕ String) × HP} (hf : f_X7_bury h v0 v1 v2 = some res) : ∃ fs, h v0 = some (.inr (7, fs)) := by
  obtain ⟨u, eu, -⟩ := ob hf
  exact kO_spec eu

theorem m_X7_bury {l : Launch} {Q : PST} {h : HP} {v0 : Nat} {v1 : Int32} {v2 : Int32} {sz : Nat} {res : (Int32 ⊕ String) × HP} (hQ : ∀ sz', Q (outT res.1) res.2 sz') (hlt : l.stackTraces = false) (hf : f_X7_bury h v0 v1 v2 = some res) : MM l M_X7_bury [.ref v0, .int v1, .int v2] h sz Q := by
  obtain ⟨u, eu, hf⟩ := ob hf
  exact MM_of wok_X7_bury (by decide +kernel) (Nat.le_of_ble_eq_true rfl) ((w_X7_bury_0 hQ hlt rfl (by decide) (by decide) hf))

theorem dX7_open_0 : decode (mB M_X7_open) 0 = .ok (.aload_n 0, 1) := by decide +kernel
theorem dX7_open_1 : decode (mB M_X7_open) 1 = .ok (.getfield 24, 3) := by decide +kernel
theorem dX7_open_4 : decode (mB M_X7_open) 4 = .ok (.invokevirtual 215, 3) := by decide +kernel
theorem dX7_open_7 : decode (mB M_X7_open) 7 = .ok (.ifCond .ne 13, 3) := by decide +kernel
theorem dX7_open_10 : decode (mB M_X7_open) 10 = .ok (.new 66, 3) := by decide +kernel
theorem dX7_open_13 : decode (mB M_X7_open) 13 = .ok (.dup, 1) := by decide +kernel
theorem dX7_open_14 : decode (mB M_X7_open) 14 = .ok (.ldc 218, 2) := by decide +kernel
theorem dX7_open_16 : decode (mB M_X7_open) 16 = .ok (.invokespecial 70, 3) := by decide +kernel
theorem dX7_open_19 : decode (mB M_X7_open) 19 = .ok (.athrow, 1) := by decide +kernel
theorem dX7_open_20 : decode (mB M_X7_open) 20 = .ok (.aload_n 0, 1) := by decide +kernel
theorem dX7_open_21 : decode (mB M_X7_open) 21 = .ok (.getfield 36, 3) := by decide +kernel
theorem dX7_open_24 : decode (mB M_X7_open) 24 = .ok (.aload_n 0, 1) := by decide +kernel
theorem dX7_open_25 : decode (mB M_X7_open) 25 = .ok (.getfield 24, 3) := by decide +kernel
theorem dX7_open_28 : decode (mB M_X7_open) 28 = .ok (.invokevirtual 202, 3) := by decide +kernel
theorem dX7_open_31 : decode (mB M_X7_open) 31 = .ok (.aload_n 0, 1) := by decide +kernel
theorem dX7_open_32 : decode (mB M_X7_open) 32 = .ok (.getfield 24, 3) := by decide +kernel
theorem dX7_open_35 : decode (mB M_X7_open) 35 = .ok (.invokevirtual 220, 3) := by decide +kernel
theorem dX7_open_38 : decode (mB M_X7_open) 38 = .ok (.aload_n 0, 1) := by decide +kernel
theorem dX7_open_39 : decode (mB M_X7_open) 39 = .ok (.getfield 24, 3) := by decide +kernel
theorem dX7_open_42 : decode (mB M_X7_open) 42 = .ok (.invokevirtual 108, 3) := by decide +kernel
theorem dX7_open_45 : decode (mB M_X7_open) 45 = .ok (.iconst 1, 1) := by decide +kernel
theorem dX7_open_46 : decode (mB M_X7_open) 46 = .ok (.isub, 1) := by decide +kernel
theorem dX7_open_47 : decode (mB M_X7_open) 47 = .ok (.ireturn, 1) := by decide +kernel
def b_X7_open_0 (v0 : Nat) (h : HP) : Option ((Int32 ⊕ String) × HP) :=
  (gR 7 1 h v0).bind fun x1 => (f_X3_canOpen h x1).bind fun y2 => if y2 = 0 then some (.inr "java/lang/IllegalStateException", h) else (gR 7 3 h v0).bind fun x4 => (gR 7 1 h v0).bind fun x5 => (f_X1_remember h x4 x5).bind fun y6 => (gR 7 1 y6 v0).bind fun x7 => (f_X3_addEye y6 x7).bind fun y8 => (gR 7 1 y8 v0).bind fun x9 => (f_X3_eyes y8 x9).bind fun y10 => some (.inl (y10 - 1), y8)
def f_X7_open (h : HP) (v0 : Nat) : Option ((Int32 ⊕ String) × HP) := (kO 7 h v0).bind fun _ => b_X7_open_0 v0 h
theorem w_X7_open_0 {l : Launch} {X : SCR} {Q : PST} {bc bs : Nat} {res : (Int32 ⊕ String) × HP} {h : HP} (hQ : ∀ sz', Q (outT res.1) res.2 sz') (hlt : l.stackTraces = false) (hX2 : X.2 = some []) (hbc : 1 ≤ bc) (hbs : 6 ≤ bs) {v0 : Nat} {sz : Nat} (hf : b_X7_open_0 v0 h  = some res) : SP l X M_X7_open 0 [(0, .ref v0)] [] h sz bc bs Q := by
  rw [b_X7_open_0] at hf
  refine sp_aload_n (pc := 0) dX7_open_0 0 rfl ?_
  obtain ⟨x1, ex1, hf⟩ := ob hf
  refine sp_gR (pc := 1) fl_RX7_24 dX7_open_1 ex1 ?_
  obtain ⟨y2, ey2, hf⟩ := ob hf
  obtain ⟨fsy2, hoy2⟩ := o_X3_canOpen ey2
  refine sp_callVi (pc := 4) (z := M_X3_canOpen) (As := []) (b := x1) (bc2 := bc) (bs2 := bs) (m_X3_canOpen (Q := _) (fun sz => ⟨y2, rfl, ?_⟩) ey2) rfl dX7_open_4 hoy2 rfl rfl ck_X7_open_215 (Nat.le_of_ble_eq_true rfl) rfl rfl rfl
  refine sp_if_ne (pc := 7) (tgt := 20) dX7_open_7 (by decide) (fun c3 => ?_) (fun c3 => ?_)
  · rw [if_neg c3] at hf
    refine sp_aload_n (pc := 20) dX7_open_20 0 rfl ?_
    obtain ⟨x4, ex4, hf⟩ := ob hf
    refine sp_gR (pc := 21) fl_RX7_36 dX7_open_21 ex4 ?_
    refine sp_aload_n (pc := 24) dX7_open_24 0 rfl ?_
    obtain ⟨x5, ex5, hf⟩ := ob hf
    refine sp_gR (pc := 25) fl_RX7_24 dX7_open_25 ex5 ?_
    obtain ⟨y6, ey6, hf⟩ := ob hf
    obtain ⟨fsy6, hoy6⟩ := o_X1_remember ey6
    refine sp_callVv (pc := 28) (z := M_X1_remember) (As := [.ref x5]) (b := x4) (bc2 := bc) (bs2 := bs) (m_X1_remember (Q := _) (fun sz => ⟨(), rfl, ?_⟩) ey6) rfl dX7_open_28 hoy6 rfl rfl ck_X7_open_202 (Nat.le_of_ble_eq_true rfl) rfl rfl rfl
    refine sp_aload_n (pc := 31) dX7_open_31 0 rfl ?_
    obtain ⟨x7, ex7, hf⟩ := ob hf
    refine sp_gR (pc := 32) fl_RX7_24 dX7_open_32 ex7 ?_
    obtain ⟨y8, ey8, hf⟩ := ob hf
    obtain ⟨fsy8, hoy8⟩ := o_X3_addEye ey8
    refine sp_callVv (pc := 35) (z := M_X3_addEye) (As := []) (b := x7) (bc2 := bc) (bs2 := bs) (m_X3_addEye (Q := _) (fun sz => ⟨(), rfl, ?_⟩) ey8) rfl dX7_open_35 hoy8 rfl rfl ck_X7_open_220 (Nat.le_of_ble_eq_true rfl) rfl rfl rfl
    refine sp_aload_n (pc := 38) dX7_open_38 0 rfl ?_
    obtain ⟨x9, ex9, hf⟩ := ob hf
    refine sp_gR (pc := 39) fl_RX7_24 dX7_open_39 ex9 ?_
    obtain ⟨y10, ey10, hf⟩ := ob hf
    obtain ⟨fsy10, hoy10⟩ := o_X3_eyes ey10
    refine sp_callVi (pc := 42) (z := M_X3_eyes) (As := []) (b := x9) (bc2 := bc) (bs2 := bs) (m_X3_eyes (Q := _) (fun sz => ⟨y10, rfl, ?_⟩) ey10) rfl dX7_open_42 hoy10 rfl rfl ck_X7_open_108 (Nat.le_of_ble_eq_true rfl) rfl rfl rfl
    refine sp_iconst (pc := 45) (v := 1) dX7_open_45 (by decide) ?_
    refine sp_isub (pc := 46) dX7_open_46 ?_
    obtain rfl := Option.some.inj hf
    exact sp_ireturn (pc := 47) dX7_open_47 rfl rfl (hQ _)
  · rw [if_pos c3] at hf
    obtain rfl := Option.some.inj hf
    exact sp_throwS (pc := 10) tr_RX7_66_218_70 hlt hX2 dX7_open_10 dX7_open_13 dX7_open_14 dX7_open_16 dX7_open_19 (by decide) (Nat.le_of_ble_eq_true rfl) hbc hbs hQ

theorem o_X7_open {h : HP} {v0 : Nat} {res : (Int32 ⊕ String) × HP} (hf : f_X7_open h v0 = some res) : ∃ fs, h v0 = some (.inr (7, fs)) := by
  obtain ⟨u, eu, -⟩ := ob hf
  exact kO_spec eu

theorem m_X7_open {l : Launch} {Q : PST} {h : HP} {v0 : Nat} {sz : Nat} {res : (Int32 ⊕ String) × HP} (hQ : ∀ sz', Q (outT res.1) res.2 sz') (hlt : l.stackTraces = false) (hf : f_X7_open h v0 = some res) : MM l M_X7_open [.ref v0] h sz Q := by
  obtain ⟨u, eu, hf⟩ := ob hf
  exact MM_of wok_X7_open (by decide +kernel) (Nat.le_of_ble_eq_true rfl) ((w_X7_open_0 hQ hlt rfl (by decide) (by decide) hf))

theorem dX7_close_0 : decode (mB M_X7_close) 0 = .ok (.aload_n 0, 1) := by decide +kernel
theorem dX7_close_1 : decode (mB M_X7_close) 1 = .ok (.getfield 24, 3) := by decide +kernel
theorem dX7_close_4 : decode (mB M_X7_close) 4 = .ok (.iload_n 1, 1) := by decide +kernel
theorem dX7_close_5 : decode (mB M_X7_close) 5 = .ok (.invokevirtual 187, 3) := by decide +kernel
theorem dX7_close_8 : decode (mB M_X7_close) 8 = .ok (.ifCond .ne 13, 3) := by decide +kernel
theorem dX7_close_11 : decode (mB M_X7_close) 11 = .ok (.new 140, 3) := by decide +kernel
theorem dX7_close_14 : decode (mB M_X7_close) 14 = .ok (.dup, 1) := by decide +kernel
theorem dX7_close_15 : decode (mB M_X7_close) 15 = .ok (.ldc 190, 2) := by decide +kernel
theorem dX7_close_17 : decode (mB M_X7_close) 17 = .ok (.invokespecial 144, 3) := by decide +kernel
theorem dX7_close_20 : decode (mB M_X7_close) 20 = .ok (.athrow, 1) := by decide +kernel
theorem dX7_close_21 : decode (mB M_X7_close) 21 = .ok (.aload_n 0, 1) := by decide +kernel
theorem dX7_close_22 : decode (mB M_X7_close) 22 = .ok (.getfield 36, 3) := by decide +kernel
theorem dX7_close_25 : decode (mB M_X7_close) 25 = .ok (.aload_n 0, 1) := by decide +kernel
theorem dX7_close_26 : decode (mB M_X7_close) 26 = .ok (.getfield 24, 3) := by decide +kernel
theorem dX7_close_29 : decode (mB M_X7_close) 29 = .ok (.invokevirtual 202, 3) := by decide +kernel
theorem dX7_close_32 : decode (mB M_X7_close) 32 = .ok (.aload_n 0, 1) := by decide +kernel
theorem dX7_close_33 : decode (mB M_X7_close) 33 = .ok (.getfield 24, 3) := by decide +kernel
theorem dX7_close_36 : decode (mB M_X7_close) 36 = .ok (.iload_n 1, 1) := by decide +kernel
theorem dX7_close_37 : decode (mB M_X7_close) 37 = .ok (.invokevirtual 223, 3) := by decide +kernel
theorem dX7_close_40 : decode (mB M_X7_close) 40 = .ok (.aload_n 0, 1) := by decide +kernel
theorem dX7_close_41 : decode (mB M_X7_close) 41 = .ok (.getfield 24, 3) := by decide +kernel
theorem dX7_close_44 : decode (mB M_X7_close) 44 = .ok (.invokevirtual 108, 3) := by decide +kernel
theorem dX7_close_47 : decode (mB M_X7_close) 47 = .ok (.ireturn, 1) := by decide +kernel
def b_X7_close_0 (v0 : Nat) (v1 : Int32) (h : HP) : Option ((Int32 ⊕ String) × HP) :=
  (gR 7 1 h v0).bind fun x1 => (f_X3_isEye h x1 v1).bind fun y2 => if y2 = 0 then some (.inr "java/lang/IndexOutOfBoundsException", h) else (gR 7 3 h v0).bind fun x4 => (gR 7 1 h v0).bind fun x5 => (f_X1_remember h x4 x5).bind fun y6 => (gR 7 1 y6 v0).bind fun x7 => (f_X3_dropEye y6 x7 v1).bind fun y8 => (gR 7 1 y8 v0).bind fun x9 => (f_X3_eyes y8 x9).bind fun y10 => some (.inl y10, y8)
def f_X7_close (h : HP) (v0 : Nat) (v1 : Int32) : Option ((Int32 ⊕ String) × HP) := (kO 7 h v0).bind fun _ => b_X7_close_0 v0 v1 h
theorem w_X7_close_0 {l : Launch} {X : SCR} {Q : PST} {bc bs : Nat} {res : (Int32 ⊕ String) × HP} {h : HP} (hQ : ∀ sz', Q (outT res.1) res.2 sz') (hlt : l.stackTraces = false) (hX2 : X.2 = some []) (hbc : 1 ≤ bc) (hbs : 6 ≤ bs) {v0 : Nat} {v1 : Int32} {sz : Nat} (hf : b_X7_close_0 v0 v1 h  = some res) : SP l X M_X7_close 0 [(0, .ref v0), (1, .int v1)] [] h sz bc bs Q := by
  rw [b_X7_close_0] at hf
  refine sp_aload_n (pc := 0) dX7_close_0 0 rfl ?_
  obtain ⟨x1, ex1, hf⟩ := ob hf
  refine sp_gR (pc := 1) fl_RX7_24 dX7_close_1 ex1 ?_
  refine sp_iload_n (pc := 4) dX7_close_4 1 rfl ?_
  obtain ⟨y2, ey2, hf⟩ := ob hf
  obtain ⟨fsy2, hoy2⟩ := o_X3_isEye ey2
  refine sp_callVi (pc := 5) (z := M_X3_isEye) (As := [.int v1]) (b := x1) (bc2 := bc) (bs2 := bs) (m_X3_isEye (Q := _) (fun sz => ⟨y2, rfl, ?_⟩) ey2) rfl dX7_close_5 hoy2 rfl rfl ck_X7_close_187 (Nat.le_of_ble_eq_true rfl) rfl rfl rfl
  refine sp_if_ne (pc := 8) (tgt := 21) dX7_close_8 (by decide) (fun c3 => ?_) (fun c3 => ?_)
  · rw [if_neg c3] at hf
    refine sp_aload_n (pc := 21) dX7_close_21 0 rfl ?_
    obtain ⟨x4, ex4, hf⟩ := ob hf
    refine sp_gR (pc := 22) fl_RX7_36 dX7_close_22 ex4 ?_
    refine sp_aload_n (pc := 25) dX7_close_25 0 rfl ?_
    obtain ⟨x5, ex5, hf⟩ := ob hf
    refine sp_gR (pc := 26) fl_RX7_24 dX7_close_26 ex5 ?_
    obtain ⟨y6, ey6, hf⟩ := ob hf
    obtain ⟨fsy6, hoy6⟩ := o_X1_remember ey6
    refine sp_callVv (pc := 29) (z := M_X1_remember) (As := [.ref x5]) (b := x4) (bc2 := bc) (bs2 := bs) (m_X1_remember (Q := _) (fun sz => ⟨(), rfl, ?_⟩) ey6) rfl dX7_close_29 hoy6 rfl rfl ck_X7_close_202 (Nat.le_of_ble_eq_true rfl) rfl rfl rfl
    refine sp_aload_n (pc := 32) dX7_close_32 0 rfl ?_
    obtain ⟨x7, ex7, hf⟩ := ob hf
    refine sp_gR (pc := 33) fl_RX7_24 dX7_close_33 ex7 ?_
    refine sp_iload_n (pc := 36) dX7_close_36 1 rfl ?_
    obtain ⟨y8, ey8, hf⟩ := ob hf
    obtain ⟨fsy8, hoy8⟩ := o_X3_dropEye ey8
    refine sp_callVv (pc := 37) (z := M_X3_dropEye) (As := [.int v1]) (b := x7) (bc2 := bc) (bs2 := bs) (m_X3_dropEye (Q := _) (fun sz => ⟨(), rfl, ?_⟩) ey8) rfl dX7_close_37 hoy8 rfl rfl ck_X7_close_223 (Nat.le_of_ble_eq_true rfl) rfl rfl rfl
    refine sp_aload_n (pc := 40) dX7_close_40 0 rfl ?_
    obtain ⟨x9, ex9, hf⟩ := ob hf
    refine sp_gR (pc := 41) fl_RX7_24 dX7_close_41 ex9 ?_
    obtain ⟨y10, ey10, hf⟩ := ob hf
    obtain ⟨fsy10, hoy10⟩ := o_X3_eyes ey10
    refine sp_callVi (pc := 44) (z := M_X3_eyes) (As := []) (b := x9) (bc2 := bc) (bs2 := bs) (m_X3_eyes (Q := _) (fun sz => ⟨y10, rfl, ?_⟩) ey10) rfl dX7_close_44 hoy10 rfl rfl ck_X7_close_108 (Nat.le_of_ble_eq_true rfl) rfl rfl rfl
    obtain rfl := Option.some.inj hf
    exact sp_ireturn (pc := 47) dX7_close_47 rfl rfl (hQ _)
  · rw [if_pos c3] at hf
    obtain rfl := Option.some.inj hf
    exact sp_throwS (pc := 11) tr_RX7_140_190_144 hlt hX2 dX7_close_11 dX7_close_14 dX7_close_15 dX7_close_17 dX7_close_20 (by decide) (Nat.le_of_ble_eq_true rfl) hbc hbs hQ

theorem o_X7_close {h : HP} {v0 : Nat} {v1 : Int32} {res : (Int32 ⊕ String) × HP} (hf : f_X7_close h v0 v1 = some res) : ∃ fs, h v0 = some (.inr (7, fs)) := by
  obtain ⟨u, eu, -⟩ := ob hf
  exact kO_spec eu

theorem m_X7_close {l : Launch} {Q : PST} {h : HP} {v0 : Nat} {v1 : Int32} {sz : Nat} {res : (Int32 ⊕ String) × HP} (hQ : ∀ sz', Q (outT res.1) res.2 sz') (hlt : l.stackTraces = false) (hf : f_X7_close h v0 v1 = some res) : MM l M_X7_close [.ref v0, .int v1] h sz Q := by
  obtain ⟨u, eu, hf⟩ := ob hf
  exact MM_of wok_X7_close (by decide +kernel) (Nat.le_of_ble_eq_true rfl) ((w_X7_close_0 hQ hlt rfl (by decide) (by decide) hf))

theorem dX7_flush_0 : decode (mB M_X7_flush) 0 = .ok (.aload_n 0, 1) := by decide +kernel
theorem dX7_flush_1 : decode (mB M_X7_flush) 1 = .ok (.getfield 24, 3) := by decide +kernel
theorem dX7_flush_4 : decode (mB M_X7_flush) 4 = .ok (.invokevirtual 226, 3) := by decide +kernel
theorem dX7_flush_7 : decode (mB M_X7_flush) 7 = .ok (.ifCond .ne 13, 3) := by decide +kernel
theorem dX7_flush_10 : decode (mB M_X7_flush) 10 = .ok (.new 66, 3) := by decide +kernel
theorem dX7_flush_13 : decode (mB M_X7_flush) 13 = .ok (.dup, 1) := by decide +kernel
theorem dX7_flush_14 : decode (mB M_X7_flush) 14 = .ok (.ldc 229, 2) := by decide +kernel
theorem dX7_flush_16 : decode (mB M_X7_flush) 16 = .ok (.invokespecial 70, 3) := by decide +kernel
theorem dX7_flush_19 : decode (mB M_X7_flush) 19 = .ok (.athrow, 1) := by decide +kernel
theorem dX7_flush_20 : decode (mB M_X7_flush) 20 = .ok (.aload_n 0, 1) := by decide +kernel
theorem dX7_flush_21 : decode (mB M_X7_flush) 21 = .ok (.getfield 36, 3) := by decide +kernel
theorem dX7_flush_24 : decode (mB M_X7_flush) 24 = .ok (.aload_n 0, 1) := by decide +kernel
theorem dX7_flush_25 : decode (mB M_X7_flush) 25 = .ok (.getfield 24, 3) := by decide +kernel
theorem dX7_flush_28 : decode (mB M_X7_flush) 28 = .ok (.invokevirtual 202, 3) := by decide +kernel
theorem dX7_flush_31 : decode (mB M_X7_flush) 31 = .ok (.aload_n 0, 1) := by decide +kernel
theorem dX7_flush_32 : decode (mB M_X7_flush) 32 = .ok (.getfield 24, 3) := by decide +kernel
theorem dX7_flush_35 : decode (mB M_X7_flush) 35 = .ok (.invokevirtual 231, 3) := by decide +kernel
theorem dX7_flush_38 : decode (mB M_X7_flush) 38 = .ok (.ireturn, 1) := by decide +kernel
def b_X7_flush_0 (v0 : Nat) (h : HP) : Option ((Int32 ⊕ String) × HP) :=
  (gR 7 1 h v0).bind fun x1 => (f_X3_canFlush h x1).bind fun y2 => if y2.1 = 0 then some (.inr "java/lang/IllegalStateException", y2.2) else (gR 7 3 y2.2 v0).bind fun x4 => (gR 7 1 y2.2 v0).bind fun x5 => (f_X1_remember y2.2 x4 x5).bind fun y6 => (gR 7 1 y6 v0).bind fun x7 => (f_X3_flushMemory y6 x7).bind fun y8 => some (.inl y8.1, y8.2)
def f_X7_flush (h : HP) (v0 : Nat) : Option ((Int32 ⊕ String) × HP) := (kO 7 h v0).bind fun _ => b_X7_flush_0 v0 h
theorem w_X7_flush_0 {l : Launch} {X : SCR} {Q : PST} {bc bs : Nat} {res : (Int32 ⊕ String) × HP} {h : HP} (hQ : ∀ sz', Q (outT res.1) res.2 sz') (hlt : l.stackTraces = false) (hX2 : X.2 = some []) (hbc : 1 ≤ bc) (hbs : 6 ≤ bs) {v0 : Nat} {sz : Nat} (hf : b_X7_flush_0 v0 h  = some res) : SP l X M_X7_flush 0 [(0, .ref v0)] [] h sz bc bs Q := by
  rw [b_X7_flush_0] at hf
  refine sp_aload_n (pc := 0) dX7_flush_0 0 rfl ?_
  obtain ⟨x1, ex1, hf⟩ := ob hf
  refine sp_gR (pc := 1) fl_RX7_24 dX7_flush_1 ex1 ?_
  obtain ⟨y2, ey2, hf⟩ := ob hf
  obtain ⟨fsy2, hoy2⟩ := o_X3_canFlush ey2
  refine sp_callVi (pc := 4) (z := M_X3_canFlush) (As := []) (b := x1) (bc2 := bc) (bs2 := bs) (m_X3_canFlush (Q := _) (fun sz => ⟨y2.1, rfl, ?_⟩) ey2) rfl dX7_flush_4 hoy2 rfl rfl ck_X7_flush_226 (Nat.le_of_ble_eq_true rfl) rfl rfl rfl
  refine sp_if_ne (pc := 7) (tgt := 20) dX7_flush_7 (by decide) (fun c3 => ?_) (fun c3 => ?_)
  · rw [if_neg c3] at hf
    refine sp_aload_n (pc := 20) dX7_flush_20 0 rfl ?_
    obtain ⟨x4, ex4, hf⟩ := ob hf
    refine sp_gR (pc := 21) fl_RX7_36 dX7_flush_21 ex4 ?_
    refine sp_aload_n (pc := 24) dX7_flush_24 0 rfl ?_
    obtain ⟨x5, ex5, hf⟩ := ob hf
    refine sp_gR (pc := 25) fl_RX7_24 dX7_flush_25 ex5 ?_
    obtain ⟨y6, ey6, hf⟩ := ob hf
    obtain ⟨fsy6, hoy6⟩ := o_X1_remember ey6
    refine sp_callVv (pc := 28) (z := M_X1_remember) (As := [.ref x5]) (b := x4) (bc2 := bc) (bs2 := bs) (m_X1_remember (Q := _) (fun sz => ⟨(), rfl, ?_⟩) ey6) rfl dX7_flush_28 hoy6 rfl rfl ck_X7_flush_202 (Nat.le_of_ble_eq_true rfl) rfl rfl rfl
    refine sp_aload_n (pc := 31) dX7_flush_31 0 rfl ?_
    obtain ⟨x7, ex7, hf⟩ := ob hf
    refine sp_gR (pc := 32) fl_RX7_24 dX7_flush_32 ex7 ?_
    obtain ⟨y8, ey8, hf⟩ := ob hf
    obtain ⟨fsy8, hoy8⟩ := o_X3_flushMemory ey8
    refine sp_callVi (pc := 35) (z := M_X3_flushMemory) (As := []) (b := x7) (bc2 := bc) (bs2 := bs) (m_X3_flushMemory (Q := _) (fun sz => ⟨y8.1, rfl, ?_⟩) ey8) rfl dX7_flush_35 hoy8 rfl rfl ck_X7_flush_231 (Nat.le_of_ble_eq_true rfl) rfl rfl rfl
    obtain rfl := Option.some.inj hf
    exact sp_ireturn (pc := 38) dX7_flush_38 rfl rfl (hQ _)
  · rw [if_pos c3] at hf
    obtain rfl := Option.some.inj hf
    exact sp_throwS (pc := 10) tr_RX7_66_229_70 hlt hX2 dX7_flush_10 dX7_flush_13 dX7_flush_14 dX7_flush_16 dX7_flush_19 (by decide) (Nat.le_of_ble_eq_true rfl) hbc hbs hQ

theorem o_X7_flush {h : HP} {v0 : Nat} {res : (Int32 ⊕ String) × HP} (hf : f_X7_flush h v0 = some res) : ∃ fs, h v0 = some (.inr (7, fs)) := by
  obtain ⟨u, eu, -⟩ := ob hf
  exact kO_spec eu

theorem m_X7_flush {l : Launch} {Q : PST} {h : HP} {v0 : Nat} {sz : Nat} {res : (Int32 ⊕ String) × HP} (hQ : ∀ sz', Q (outT res.1) res.2 sz') (hlt : l.stackTraces = false) (hf : f_X7_flush h v0 = some res) : MM l M_X7_flush [.ref v0] h sz Q := by
  obtain ⟨u, eu, hf⟩ := ob hf
  exact MM_of wok_X7_flush (by decide +kernel) (Nat.le_of_ble_eq_true rfl) ((w_X7_flush_0 hQ hlt rfl (by decide) (by decide) hf))

theorem dX7_merge_0 : decode (mB M_X7_merge) 0 = .ok (.aload_n 0, 1) := by decide +kernel
theorem dX7_merge_1 : decode (mB M_X7_merge) 1 = .ok (.getfield 24, 3) := by decide +kernel
theorem dX7_merge_4 : decode (mB M_X7_merge) 4 = .ok (.iload_n 1, 1) := by decide +kernel
theorem dX7_merge_5 : decode (mB M_X7_merge) 5 = .ok (.invokevirtual 234, 3) := by decide +kernel
theorem dX7_merge_8 : decode (mB M_X7_merge) 8 = .ok (.ifCond .ne 13, 3) := by decide +kernel
theorem dX7_merge_11 : decode (mB M_X7_merge) 11 = .ok (.new 140, 3) := by decide +kernel
theorem dX7_merge_14 : decode (mB M_X7_merge) 14 = .ok (.dup, 1) := by decide +kernel
theorem dX7_merge_15 : decode (mB M_X7_merge) 15 = .ok (.ldc 154, 2) := by decide +kernel
theorem dX7_merge_17 : decode (mB M_X7_merge) 17 = .ok (.invokespecial 144, 3) := by decide +kernel
theorem dX7_merge_20 : decode (mB M_X7_merge) 20 = .ok (.athrow, 1) := by decide +kernel
theorem dX7_merge_21 : decode (mB M_X7_merge) 21 = .ok (.aload_n 0, 1) := by decide +kernel
theorem dX7_merge_22 : decode (mB M_X7_merge) 22 = .ok (.getfield 24, 3) := by decide +kernel
theorem dX7_merge_25 : decode (mB M_X7_merge) 25 = .ok (.iload_n 1, 1) := by decide +kernel
theorem dX7_merge_26 : decode (mB M_X7_merge) 26 = .ok (.invokevirtual 237, 3) := by decide +kernel
theorem dX7_merge_29 : decode (mB M_X7_merge) 29 = .ok (.ifCond .ne 13, 3) := by decide +kernel
theorem dX7_merge_32 : decode (mB M_X7_merge) 32 = .ok (.new 66, 3) := by decide +kernel
theorem dX7_merge_35 : decode (mB M_X7_merge) 35 = .ok (.dup, 1) := by decide +kernel
theorem dX7_merge_36 : decode (mB M_X7_merge) 36 = .ok (.ldc 240, 2) := by decide +kernel
theorem dX7_merge_38 : decode (mB M_X7_merge) 38 = .ok (.invokespecial 70, 3) := by decide +kernel
theorem dX7_merge_41 : decode (mB M_X7_merge) 41 = .ok (.athrow, 1) := by decide +kernel
theorem dX7_merge_42 : decode (mB M_X7_merge) 42 = .ok (.aload_n 0, 1) := by decide +kernel
theorem dX7_merge_43 : decode (mB M_X7_merge) 43 = .ok (.getfield 36, 3) := by decide +kernel
theorem dX7_merge_46 : decode (mB M_X7_merge) 46 = .ok (.aload_n 0, 1) := by decide +kernel
theorem dX7_merge_47 : decode (mB M_X7_merge) 47 = .ok (.getfield 24, 3) := by decide +kernel
theorem dX7_merge_50 : decode (mB M_X7_merge) 50 = .ok (.invokevirtual 202, 3) := by decide +kernel
theorem dX7_merge_53 : decode (mB M_X7_merge) 53 = .ok (.aload_n 0, 1) := by decide +kernel
theorem dX7_merge_54 : decode (mB M_X7_merge) 54 = .ok (.getfield 24, 3) := by decide +kernel
theorem dX7_merge_57 : decode (mB M_X7_merge) 57 = .ok (.iload_n 1, 1) := by decide +kernel
theorem dX7_merge_58 : decode (mB M_X7_merge) 58 = .ok (.invokevirtual 242, 3) := by decide +kernel
theorem dX7_merge_61 : decode (mB M_X7_merge) 61 = .ok (.ireturn, 1) := by decide +kernel
def b_X7_merge_0 (v0 : Nat) (v1 : Int32) (h : HP) : Option ((Int32 ⊕ String) × HP) :=
  (gR 7 1 h v0).bind fun x1 => (f_X3_isRun h x1 v1).bind fun y2 => if y2 = 0 then some (.inr "java/lang/IndexOutOfBoundsException", h) else (gR 7 1 h v0).bind fun x4 => (f_X3_canMerge h x4 v1).bind fun y5 => if y5.1 = 0 then some (.inr "java/lang/IllegalStateException", y5.2) else (gR 7 3 y5.2 v0).bind fun x7 => (gR 7 1 y5.2 v0).bind fun x8 => (f_X1_remember y5.2 x7 x8).bind fun y9 => (gR 7 1 y9 v0).bind fun x10 => (f_X3_mergeRuns y9 x10 v1).bind fun y11 => some (.inl y11.1, y11.2)
def f_X7_merge (h : HP) (v0 : Nat) (v1 : Int32) : Option ((Int32 ⊕ String) × HP) := (kO 7 h v0).bind fun _ => b_X7_merge_0 v0 v1 h
theorem w_X7_merge_0 {l : Launch} {X : SCR} {Q : PST} {bc bs : Nat} {res : (Int32 ⊕ String) × HP} {h : HP} (hQ : ∀ sz', Q (outT res.1) res.2 sz') (hlt : l.stackTraces = false) (hX2 : X.2 = some []) (hbc : 1 ≤ bc) (hbs : 6 ≤ bs) {v0 : Nat} {v1 : Int32} {sz : Nat} (hf : b_X7_merge_0 v0 v1 h  = some res) : SP l X M_X7_merge 0 [(0, .ref v0), (1, .int v1)] [] h sz bc bs Q := by
  rw [b_X7_merge_0] at hf
  refine sp_aload_n (pc := 0) dX7_merge_0 0 rfl ?_
  obtain ⟨x1, ex1, hf⟩ := ob hf
  refine sp_gR (pc := 1) fl_RX7_24 dX7_merge_1 ex1 ?_
  refine sp_iload_n (pc := 4) dX7_merge_4 1 rfl ?_
  obtain ⟨y2, ey2, hf⟩ := ob hf
  obtain ⟨fsy2, hoy2⟩ := o_X3_isRun ey2
  refine sp_callVi (pc := 5) (z := M_X3_isRun) (As := [.int v1]) (b := x1) (bc2 := bc) (bs2 := bs) (m_X3_isRun (Q := _) (fun sz => ⟨y2, rfl, ?_⟩) ey2) rfl dX7_merge_5 hoy2 rfl rfl ck_X7_merge_234 (Nat.le_of_ble_eq_true rfl) rfl rfl rfl
  refine sp_if_ne (pc := 8) (tgt := 21) dX7_merge_8 (by decide) (fun c3 => ?_) (fun c3 => ?_)
  · rw [if_neg c3] at hf
    refine sp_aload_n (pc := 21) dX7_merge_21 0 rfl ?_
    obtain ⟨x4, ex4, hf⟩ := ob hf
    refine sp_gR (pc := 22) fl_RX7_24 dX7_merge_22 ex4 ?_
    refine sp_iload_n (pc := 25) dX7_merge_25 1 rfl ?_
    obtain ⟨y5, ey5, hf⟩ := ob hf
    obtain ⟨fsy5, hoy5⟩ := o_X3_canMerge ey5
    refine sp_callVi (pc := 26) (z := M_X3_canMerge) (As := [.int v1]) (b := x4) (bc2 := bc) (bs2 := bs) (m_X3_canMerge (Q := _) (fun sz => ⟨y5.1, rfl, ?_⟩) ey5) rfl dX7_merge_26 hoy5 rfl rfl ck_X7_merge_237 (Nat.le_of_ble_eq_true rfl) rfl rfl rfl
    refine sp_if_ne (pc := 29) (tgt := 42) dX7_merge_29 (by decide) (fun c6 => ?_) (fun c6 => ?_)
    · rw [if_neg c6] at hf
      refine sp_aload_n (pc := 42) dX7_merge_42 0 rfl ?_
      obtain ⟨x7, ex7, hf⟩ := ob hf
      refine sp_gR (pc := 43) fl_RX7_36 dX7_merge_43 ex7 ?_
      refine sp_aload_n (pc := 46) dX7_merge_46 0 rfl ?_
      obtain ⟨x8, ex8, hf⟩ := ob hf
      refine sp_gR (pc := 47) fl_RX7_24 dX7_merge_47 ex8 ?_
      obtain ⟨y9, ey9, hf⟩ := ob hf
      obtain ⟨fsy9, hoy9⟩ := o_X1_remember ey9
      refine sp_callVv (pc := 50) (z := M_X1_remember) (As := [.ref x8]) (b := x7) (bc2 := bc) (bs2 := bs) (m_X1_remember (Q := _) (fun sz => ⟨(), rfl, ?_⟩) ey9) rfl dX7_merge_50 hoy9 rfl rfl ck_X7_merge_202 (Nat.le_of_ble_eq_true rfl) rfl rfl rfl
      refine sp_aload_n (pc := 53) dX7_merge_53 0 rfl ?_
      obtain ⟨x10, ex10, hf⟩ := ob hf
      refine sp_gR (pc := 54) fl_RX7_24 dX7_merge_54 ex10 ?_
      refine sp_iload_n (pc := 57) dX7_merge_57 1 rfl ?_
      obtain ⟨y11, ey11, hf⟩ := ob hf
      obtain ⟨fsy11, hoy11⟩ := o_X3_mergeRuns ey11
      refine sp_callVi (pc := 58) (z := M_X3_mergeRuns) (As := [.int v1]) (b := x10) (bc2 := bc) (bs2 := bs) (m_X3_mergeRuns (Q := _) (fun sz => ⟨y11.1, rfl, ?_⟩) ey11) rfl dX7_merge_58 hoy11 rfl rfl ck_X7_merge_242 (Nat.le_of_ble_eq_true rfl) rfl rfl rfl
      obtain rfl := Option.some.inj hf
      exact sp_ireturn (pc := 61) dX7_merge_61 rfl rfl (hQ _)
    · rw [if_pos c6] at hf
      obtain rfl := Option.some.inj hf
      exact sp_throwS (pc := 32) tr_RX7_66_240_70 hlt hX2 dX7_merge_32 dX7_merge_35 dX7_merge_36 dX7_merge_38 dX7_merge_41 (by decide) (Nat.le_of_ble_eq_true rfl) hbc hbs hQ
  · rw [if_pos c3] at hf
    obtain rfl := Option.some.inj hf
    exact sp_throwS (pc := 11) tr_RX7_140_154_144 hlt hX2 dX7_merge_11 dX7_merge_14 dX7_merge_15 dX7_merge_17 dX7_merge_20 (by decide) (Nat.le_of_ble_eq_true rfl) hbc hbs hQ

theorem o_X7_merge {h : HP} {v0 : Nat} {v1 : Int32} {res : (Int32 ⊕ String) × HP} (hf : f_X7_merge h v0 v1 = some res) : ∃ fs, h v0 = some (.inr (7, fs)) := by
  obtain ⟨u, eu, -⟩ := ob hf
  exact kO_spec eu

theorem m_X7_merge {l : Launch} {Q : PST} {h : HP} {v0 : Nat} {v1 : Int32} {sz : Nat} {res : (Int32 ⊕ String) × HP} (hQ : ∀ sz', Q (outT res.1) res.2 sz') (hlt : l.stackTraces = false) (hf : f_X7_merge h v0 v1 = some res) : MM l M_X7_merge [.ref v0, .int v1] h sz Q := by
  obtain ⟨u, eu, hf⟩ := ob hf
  exact MM_of wok_X7_merge (by decide +kernel) (Nat.le_of_ble_eq_true rfl) ((w_X7_merge_0 hQ hlt rfl (by decide) (by decide) hf))

theorem dX7_undo_0 : decode (mB M_X7_undo) 0 = .ok (.aload_n 0, 1) := by decide +kernel
theorem dX7_undo_1 : decode (mB M_X7_undo) 1 = .ok (.getfield 36, 3) := by decide +kernel
theorem dX7_undo_4 : decode (mB M_X7_undo) 4 = .ok (.invokevirtual 245, 3) := by decide +kernel
theorem dX7_undo_7 : decode (mB M_X7_undo) 7 = .ok (.ifCond .ne 13, 3) := by decide +kernel
theorem dX7_undo_10 : decode (mB M_X7_undo) 10 = .ok (.new 66, 3) := by decide +kernel
theorem dX7_undo_13 : decode (mB M_X7_undo) 13 = .ok (.dup, 1) := by decide +kernel
theorem dX7_undo_14 : decode (mB M_X7_undo) 14 = .ok (.ldc 246, 2) := by decide +kernel
theorem dX7_undo_16 : decode (mB M_X7_undo) 16 = .ok (.invokespecial 70, 3) := by decide +kernel
theorem dX7_undo_19 : decode (mB M_X7_undo) 19 = .ok (.athrow, 1) := by decide +kernel
theorem dX7_undo_20 : decode (mB M_X7_undo) 20 = .ok (.aload_n 0, 1) := by decide +kernel
theorem dX7_undo_21 : decode (mB M_X7_undo) 21 = .ok (.getfield 36, 3) := by decide +kernel
theorem dX7_undo_24 : decode (mB M_X7_undo) 24 = .ok (.aload_n 0, 1) := by decide +kernel
theorem dX7_undo_25 : decode (mB M_X7_undo) 25 = .ok (.getfield 24, 3) := by decide +kernel
theorem dX7_undo_28 : decode (mB M_X7_undo) 28 = .ok (.invokevirtual 248, 3) := by decide +kernel
theorem dX7_undo_31 : decode (mB M_X7_undo) 31 = .ok (.aload_n 0, 1) := by decide +kernel
theorem dX7_undo_32 : decode (mB M_X7_undo) 32 = .ok (.getfield 36, 3) := by decide +kernel
theorem dX7_undo_35 : decode (mB M_X7_undo) 35 = .ok (.invokevirtual 245, 3) := by decide +kernel
theorem dX7_undo_38 : decode (mB M_X7_undo) 38 = .ok (.ireturn, 1) := by decide +kernel
def b_X7_undo_0 (v0 : Nat) (h : HP) : Option ((Int32 ⊕ String) × HP) :=
  (gR 7 3 h v0).bind fun x1 => (f_X1_size h x1).bind fun y2 => if y2 = 0 then some (.inr "java/lang/IllegalStateException", h) else (gR 7 3 h v0).bind fun x4 => (gR 7 1 h v0).bind fun x5 => (f_X1_takeBack h x4 x5).bind fun y6 => (gR 7 3 y6 v0).bind fun x7 => (f_X1_size y6 x7).bind fun y8 => some (.inl y8, y6)
def f_X7_undo (h : HP) (v0 : Nat) : Option ((Int32 ⊕ String) × HP) := (kO 7 h v0).bind fun _ => b_X7_undo_0 v0 h
theorem w_X7_undo_0 {l : Launch} {X : SCR} {Q : PST} {bc bs : Nat} {res : (Int32 ⊕ String) × HP} {h : HP} (hQ : ∀ sz', Q (outT res.1) res.2 sz') (hlt : l.stackTraces = false) (hX2 : X.2 = some []) (hbc : 1 ≤ bc) (hbs : 6 ≤ bs) {v0 : Nat} {sz : Nat} (hf : b_X7_undo_0 v0 h  = some res) : SP l X M_X7_undo 0 [(0, .ref v0)] [] h sz bc bs Q := by
  rw [b_X7_undo_0] at hf
  refine sp_aload_n (pc := 0) dX7_undo_0 0 rfl ?_
  obtain ⟨x1, ex1, hf⟩ := ob hf
  refine sp_gR (pc := 1) fl_RX7_36 dX7_undo_1 ex1 ?_
  obtain ⟨y2, ey2, hf⟩ := ob hf
  obtain ⟨fsy2, hoy2⟩ := o_X1_size ey2
  refine sp_callVi (pc := 4) (z := M_X1_size) (As := []) (b := x1) (bc2 := bc) (bs2 := bs) (m_X1_size (Q := _) (fun sz => ⟨y2, rfl, ?_⟩) ey2) rfl dX7_undo_4 hoy2 rfl rfl ck_X7_undo_245 (Nat.le_of_ble_eq_true rfl) rfl rfl rfl
  refine sp_if_ne (pc := 7) (tgt := 20) dX7_undo_7 (by decide) (fun c3 => ?_) (fun c3 => ?_)
  · rw [if_neg c3] at hf
    refine sp_aload_n (pc := 20) dX7_undo_20 0 rfl ?_
    obtain ⟨x4, ex4, hf⟩ := ob hf
    refine sp_gR (pc := 21) fl_RX7_36 dX7_undo_21 ex4 ?_
    refine sp_aload_n (pc := 24) dX7_undo_24 0 rfl ?_
    obtain ⟨x5, ex5, hf⟩ := ob hf
    refine sp_gR (pc := 25) fl_RX7_24 dX7_undo_25 ex5 ?_
    obtain ⟨y6, ey6, hf⟩ := ob hf
    obtain ⟨fsy6, hoy6⟩ := o_X1_takeBack ey6
    refine sp_callVv (pc := 28) (z := M_X1_takeBack) (As := [.ref x5]) (b := x4) (bc2 := bc) (bs2 := bs) (m_X1_takeBack (Q := _) (fun sz => ⟨(), rfl, ?_⟩) ey6) rfl dX7_undo_28 hoy6 rfl rfl ck_X7_undo_248 (Nat.le_of_ble_eq_true rfl) rfl rfl rfl
    refine sp_aload_n (pc := 31) dX7_undo_31 0 rfl ?_
    obtain ⟨x7, ex7, hf⟩ := ob hf
    refine sp_gR (pc := 32) fl_RX7_36 dX7_undo_32 ex7 ?_
    obtain ⟨y8, ey8, hf⟩ := ob hf
    obtain ⟨fsy8, hoy8⟩ := o_X1_size ey8
    refine sp_callVi (pc := 35) (z := M_X1_size) (As := []) (b := x7) (bc2 := bc) (bs2 := bs) (m_X1_size (Q := _) (fun sz => ⟨y8, rfl, ?_⟩) ey8) rfl dX7_undo_35 hoy8 rfl rfl ck_X7_undo_245 (Nat.le_of_ble_eq_true rfl) rfl rfl rfl
    obtain rfl := Option.some.inj hf
    exact sp_ireturn (pc := 38) dX7_undo_38 rfl rfl (hQ _)
  · rw [if_pos c3] at hf
    obtain rfl := Option.some.inj hf
    exact sp_throwS (pc := 10) tr_RX7_66_246_70 hlt hX2 dX7_undo_10 dX7_undo_13 dX7_undo_14 dX7_undo_16 dX7_undo_19 (by decide) (Nat.le_of_ble_eq_true rfl) hbc hbs hQ

theorem o_X7_undo {h : HP} {v0 : Nat} {res : (Int32 ⊕ String) × HP} (hf : f_X7_undo h v0 = some res) : ∃ fs, h v0 = some (.inr (7, fs)) := by
  obtain ⟨u, eu, -⟩ := ob hf
  exact kO_spec eu

theorem m_X7_undo {l : Launch} {Q : PST} {h : HP} {v0 : Nat} {sz : Nat} {res : (Int32 ⊕ String) × HP} (hQ : ∀ sz', Q (outT res.1) res.2 sz') (hlt : l.stackTraces = false) (hf : f_X7_undo h v0 = some res) : MM l M_X7_undo [.ref v0] h sz Q := by
  obtain ⟨u, eu, hf⟩ := ob hf
  exact MM_of wok_X7_undo (by decide +kernel) (Nat.le_of_ble_eq_true rfl) ((w_X7_undo_0 hQ hlt rfl (by decide) (by decide) hf))

theorem dX7_looks_0 : decode (mB M_X7_looks) 0 = .ok (.iload_n 1, 1) := by decide +kernel
theorem dX7_looks_1 : decode (mB M_X7_looks) 1 = .ok (.invokestatic 134, 3) := by decide +kernel
theorem dX7_looks_4 : decode (mB M_X7_looks) 4 = .ok (.ifCond .ne 13, 3) := by decide +kernel
theorem dX7_looks_7 : decode (mB M_X7_looks) 7 = .ok (.new 140, 3) := by decide +kernel
theorem dX7_looks_10 : decode (mB M_X7_looks) 10 = .ok (.dup, 1) := by decide +kernel
theorem dX7_looks_11 : decode (mB M_X7_looks) 11 = .ok (.ldc 192, 2) := by decide +kernel
theorem dX7_looks_13 : decode (mB M_X7_looks) 13 = .ok (.invokespecial 144, 3) := by decide +kernel
theorem dX7_looks_16 : decode (mB M_X7_looks) 16 = .ok (.athrow, 1) := by decide +kernel
theorem dX7_looks_17 : decode (mB M_X7_looks) 17 = .ok (.aload_n 0, 1) := by decide +kernel
theorem dX7_looks_18 : decode (mB M_X7_looks) 18 = .ok (.getfield 24, 3) := by decide +kernel
theorem dX7_looks_21 : decode (mB M_X7_looks) 21 = .ok (.iload_n 1, 1) := by decide +kernel
theorem dX7_looks_22 : decode (mB M_X7_looks) 22 = .ok (.aload_n 0, 1) := by decide +kernel
theorem dX7_looks_23 : decode (mB M_X7_looks) 23 = .ok (.getfield 24, 3) := by decide +kernel
theorem dX7_looks_26 : decode (mB M_X7_looks) 26 = .ok (.invokevirtual 98, 3) := by decide +kernel
theorem dX7_looks_29 : decode (mB M_X7_looks) 29 = .ok (.invokevirtual 251, 3) := by decide +kernel
theorem dX7_looks_32 : decode (mB M_X7_looks) 32 = .ok (.istore_n 2, 1) := by decide +kernel
theorem dX7_looks_33 : decode (mB M_X7_looks) 33 = .ok (.iconst 0, 1) := by decide +kernel
theorem dX7_looks_34 : decode (mB M_X7_looks) 34 = .ok (.istore_n 3, 1) := by decide +kernel
theorem dX7_looks_35 : decode (mB M_X7_looks) 35 = .ok (.iconst (-1), 1) := by decide +kernel
theorem dX7_looks_36 : decode (mB M_X7_looks) 36 = .ok (.istore 4, 2) := by decide +kernel
theorem dX7_looks_38 : decode (mB M_X7_looks) 38 = .ok (.iload 4, 2) := by decide +kernel
theorem dX7_looks_40 : decode (mB M_X7_looks) 40 = .ok (.aload_n 0, 1) := by decide +kernel
theorem dX7_looks_41 : decode (mB M_X7_looks) 41 = .ok (.getfield 24, 3) := by decide +kernel
theorem dX7_looks_44 : decode (mB M_X7_looks) 44 = .ok (.invokevirtual 105, 3) := by decide +kernel
theorem dX7_looks_47 : decode (mB M_X7_looks) 47 = .ok (.if_icmp .ge 44, 3) := by decide +kernel
theorem dX7_looks_50 : decode (mB M_X7_looks) 50 = .ok (.aload_n 0, 1) := by decide +kernel
theorem dX7_looks_51 : decode (mB M_X7_looks) 51 = .ok (.getfield 24, 3) := by decide +kernel
theorem dX7_looks_54 : decode (mB M_X7_looks) 54 = .ok (.iload 4, 2) := by decide +kernel
theorem dX7_looks_56 : decode (mB M_X7_looks) 56 = .ok (.invokevirtual 101, 3) := by decide +kernel
theorem dX7_looks_59 : decode (mB M_X7_looks) 59 = .ok (.ifCond .le 6, 3) := by decide +kernel
theorem dX7_looks_62 : decode (mB M_X7_looks) 62 = .ok (.iinc 3 1, 3) := by decide +kernel
theorem dX7_looks_65 : decode (mB M_X7_looks) 65 = .ok (.iload_n 2, 1) := by decide +kernel
theorem dX7_looks_66 : decode (mB M_X7_looks) 66 = .ok (.iconst (-1), 1) := by decide +kernel
theorem dX7_looks_67 : decode (mB M_X7_looks) 67 = .ok (.if_icmp .eq 18, 3) := by decide +kernel
theorem dX7_looks_70 : decode (mB M_X7_looks) 70 = .ok (.iload_n 2, 1) := by decide +kernel
theorem dX7_looks_71 : decode (mB M_X7_looks) 71 = .ok (.aload_n 0, 1) := by decide +kernel
theorem dX7_looks_72 : decode (mB M_X7_looks) 72 = .ok (.getfield 24, 3) := by decide +kernel
theorem dX7_looks_75 : decode (mB M_X7_looks) 75 = .ok (.iload 4, 2) := by decide +kernel
theorem dX7_looks_77 : decode (mB M_X7_looks) 77 = .ok (.invokevirtual 156, 3) := by decide +kernel
theorem dX7_looks_80 : decode (mB M_X7_looks) 80 = .ok (.if_icmp .lt 5, 3) := by decide +kernel
theorem dX7_looks_83 : decode (mB M_X7_looks) 83 = .ok (.iload_n 3, 1) := by decide +kernel
theorem dX7_looks_84 : decode (mB M_X7_looks) 84 = .ok (.ireturn, 1) := by decide +kernel
theorem dX7_looks_85 : decode (mB M_X7_looks) 85 = .ok (.iinc 4 1, 3) := by decide +kernel
theorem dX7_looks_88 : decode (mB M_X7_looks) 88 = .ok (.goto (-50), 3) := by decide +kernel
theorem dX7_looks_91 : decode (mB M_X7_looks) 91 = .ok (.iload_n 3, 1) := by decide +kernel
theorem dX7_looks_92 : decode (mB M_X7_looks) 92 = .ok (.ireturn, 1) := by decide +kernel
def b_X7_looks_65 (h : HP) (v0 : Nat) (k38 : Int32 → Int32 → Int32 → Option (Int32 ⊕ String)) (v2 : Int32) (v3 : Int32) (v4 : Int32) : Option (Int32 ⊕ String) :=
  if v2 = (-1) then k38 v2 v3 (v4 + 1) else (gR 7 1 h v0).bind fun x2 => (f_X3_startOf h x2 v4).bind fun y3 => if v2 < y3 then k38 v2 v3 (v4 + 1) else some (.inl v3)
def c_X7_looks_38 (h : HP) (v0 : Nat) (k38 : Int32 → Int32 → Int32 → Option (Int32 ⊕ String)) (v2 : Int32) (v3 : Int32) (v4 : Int32) : Option (Int32 ⊕ String) :=
  (gR 7 1 h v0).bind fun x1 => (f_X3_runs h x1).bind fun y2 => if y2 ≤ v4 then some (.inl v3) else (gR 7 1 h v0).bind fun x4 => (f_X3_sizeOf h x4 v4).bind fun y5 => if y5 ≤ 0 then b_X7_looks_65 h v0 k38 v2 v3 v4 else b_X7_looks_65 h v0 k38 v2 (v3 + 1) v4
def b_X7_looks_38 (h : HP) (v0 : Nat) : Nat → Int32 → Int32 → Int32 → Option (Int32 ⊕ String)
  | 0, _, _, _ => none
  | n + 1, v2, v3, v4 => c_X7_looks_38 h v0 (b_X7_looks_38 h v0 n) v2 v3 v4
def b_X7_looks_0 (h : HP) (v0 : Nat) (v1 : Int32) : Option (Int32 ⊕ String) :=
  (f_X7_isKey h v1).bind fun y1 => if y1 = 0 then some (.inr "java/lang/IndexOutOfBoundsException") else (gR 7 1 h v0).bind fun x3 => (gR 7 1 h v0).bind fun x4 => (f_X3_latest h x4).bind fun y5 => (f_X3_newestFor h x3 v1 y5).bind fun y6 => b_X7_looks_38 h v0 FU y6 0 ((-1))
def f_X7_looks (h : HP) (v0 : Nat) (v1 : Int32) : Option (Int32 ⊕ String) := (kO 7 h v0).bind fun _ => b_X7_looks_0 h v0 v1
theorem w_X7_looks_65 {l : Launch} {X : SCR} {Q : PST} {bc bs : Nat} {res : Int32 ⊕ String} {h : HP} (hQ : ∀ sz', Q (outT res) h sz') (hlt : l.stackTraces = false) (hX2 : X.2 = some []) (hbc : 1 ≤ bc) (hbs : 6 ≤ bs) {v0 : Nat} {k38 : Int32 → Int32 → Int32 → Option (Int32 ⊕ String)} (hk38 : ∀ (v2 : Int32) (v3 : Int32) (v4 : Int32) (sz : Nat), k38 v2 v3 v4 = some res → SP l X M_X7_looks 38 [(0, .ref v0), (2, .int v2), (3, .int v3), (4, .int v4)] [] h sz bc bs Q) {v2 : Int32} {v3 : Int32} {v4 : Int32} {sz : Nat} (hf : b_X7_looks_65 h v0 k38 v2 v3 v4 = some res) : SP l X M_X7_looks 65 [(0, .ref v0), (2, .int v2), (3, .int v3), (4, .int v4)] [] h sz bc bs Q := by
  rw [b_X7_looks_65] at hf
  refine sp_iload_n (pc := 65) dX7_looks_65 1 rfl ?_
  refine sp_iconst (pc := 66) (v := (-1)) dX7_looks_66 (by decide) ?_
  refine sp_icmp_eq (pc := 67) (tgt := 85) dX7_looks_67 (by decide) (fun c1 => ?_) (fun c1 => ?_)
  · rw [if_pos c1] at hf
    refine sp_iinc (pc := 85) (v := v4 + 1) (lv' := [(4, .int (v4 + 1)), (0, .ref v0), (2, .int v2), (3, .int v3)]) dX7_looks_85 3 rfl rfl (by decide) rfl ?_
    refine sp_goto (pc := 88) (tgt := 38) dX7_looks_88 (by decide) ?_
    exact sp_sub [1, 2, 3, 0] rfl (hk38 _ _ _ _ hf)
  · rw [if_neg c1] at hf
    refine sp_iload_n (pc := 70) dX7_looks_70 1 rfl ?_
    refine sp_aload_n (pc := 71) dX7_looks_71 0 rfl ?_
    obtain ⟨x2, ex2, hf⟩ := ob hf
    refine sp_gR (pc := 72) fl_RX7_24 dX7_looks_72 ex2 ?_
    refine sp_iload (pc := 75) dX7_looks_75 3 rfl ?_
    obtain ⟨y3, ey3, hf⟩ := ob hf
    obtain ⟨fsy3, hoy3⟩ := o_X3_startOf ey3
    refine sp_callVi (pc := 77) (z := M_X3_startOf) (As := [.int v4]) (b := x2) (bc2 := bc) (bs2 := bs) (m_X3_startOf (Q := _) (fun sz => ⟨y3, rfl, ?_⟩) ey3) rfl dX7_looks_77 hoy3 rfl rfl ck_X7_looks_156 (Nat.le_of_ble_eq_true rfl) rfl rfl rfl
    refine sp_icmp_lt (pc := 80) (tgt := 85) dX7_looks_80 (by decide) (fun c4 => ?_) (fun c4 => ?_)
    · rw [if_pos c4] at hf
      refine sp_iinc (pc := 85) (v := v4 + 1) (lv' := [(4, .int (v4 + 1)), (0, .ref v0), (2, .int v2), (3, .int v3)]) dX7_looks_85 3 rfl rfl (by decide) rfl ?_
      refine sp_goto (pc := 88) (tgt := 38) dX7_looks_88 (by decide) ?_
      exact sp_sub [1, 2, 3, 0] rfl (hk38 _ _ _ _ hf)
    · rw [if_neg c4] at hf
      refine sp_iload_n (pc := 83) dX7_looks_83 2 rfl ?_
      obtain rfl := Option.some.inj hf
      exact sp_ireturn (pc := 84) dX7_looks_84 rfl rfl (hQ _)

theorem wc_X7_looks_38 {l : Launch} {X : SCR} {Q : PST} {bc bs : Nat} {res : Int32 ⊕ String} {h : HP} (hQ : ∀ sz', Q (outT res) h sz') (hlt : l.stackTraces = false) (hX2 : X.2 = some []) (hbc : 1 ≤ bc) (hbs : 6 ≤ bs) {v0 : Nat} {k38 : Int32 → Int32 → Int32 → Option (Int32 ⊕ String)} (hk38 : ∀ (v2 : Int32) (v3 : Int32) (v4 : Int32) (sz : Nat), k38 v2 v3 v4 = some res → SP l X M_X7_looks 38 [(0, .ref v0), (2, .int v2), (3, .int v3), (4, .int v4)] [] h sz bc bs Q) {v2 : Int32} {v3 : Int32} {v4 : Int32} {sz : Nat} (hf : c_X7_looks_38 h v0 k38 v2 v3 v4 = some res) : SP l X M_X7_looks 38 [(0, .ref v0), (2, .int v2), (3, .int v3), (4, .int v4)] [] h sz bc bs Q := by
  rw [c_X7_looks_38] at hf
  refine sp_iload (pc := 38) dX7_looks_38 3 rfl ?_
  refine sp_aload_n (pc := 40) dX7_looks_40 0 rfl ?_
  obtain ⟨x1, ex1, hf⟩ := ob hf
  refine sp_gR (pc := 41) fl_RX7_24 dX7_looks_41 ex1 ?_
  obtain ⟨y2, ey2, hf⟩ := ob hf
  obtain ⟨fsy2, hoy2⟩ := o_X3_runs ey2
  refine sp_callVi (pc := 44) (z := M_X3_runs) (As := []) (b := x1) (bc2 := bc) (bs2 := bs) (m_X3_runs (Q := _) (fun sz => ⟨y2, rfl, ?_⟩) ey2) rfl dX7_looks_44 hoy2 rfl rfl ck_X7_looks_105 (Nat.le_of_ble_eq_true rfl) rfl rfl rfl
  refine sp_icmp_ge (pc := 47) (tgt := 91) dX7_looks_47 (by decide) (fun c3 => ?_) (fun c3 => ?_)
  · rw [if_pos c3] at hf
    refine sp_iload_n (pc := 91) dX7_looks_91 2 rfl ?_
    obtain rfl := Option.some.inj hf
    exact sp_ireturn (pc := 92) dX7_looks_92 rfl rfl (hQ _)
  · rw [if_neg c3] at hf
    refine sp_aload_n (pc := 50) dX7_looks_50 0 rfl ?_
    obtain ⟨x4, ex4, hf⟩ := ob hf
    refine sp_gR (pc := 51) fl_RX7_24 dX7_looks_51 ex4 ?_
    refine sp_iload (pc := 54) dX7_looks_54 3 rfl ?_
    obtain ⟨y5, ey5, hf⟩ := ob hf
    obtain ⟨fsy5, hoy5⟩ := o_X3_sizeOf ey5
    refine sp_callVi (pc := 56) (z := M_X3_sizeOf) (As := [.int v4]) (b := x4) (bc2 := bc) (bs2 := bs) (m_X3_sizeOf (Q := _) (fun sz => ⟨y5, rfl, ?_⟩) ey5) rfl dX7_looks_56 hoy5 rfl rfl ck_X7_looks_101 (Nat.le_of_ble_eq_true rfl) rfl rfl rfl
    refine sp_if_le (pc := 59) (tgt := 65) dX7_looks_59 (by decide) (fun c6 => ?_) (fun c6 => ?_)
    · rw [if_pos c6] at hf
      exact (w_X7_looks_65 hQ hlt hX2 hbc hbs hk38 hf)
    · rw [if_neg c6] at hf
      refine sp_iinc (pc := 62) (v := v3 + 1) (lv' := [(3, .int (v3 + 1)), (0, .ref v0), (2, .int v2), (4, .int v4)]) dX7_looks_62 2 rfl rfl (by decide) rfl ?_
      exact sp_sub [1, 2, 0, 3] rfl (w_X7_looks_65 hQ hlt hX2 hbc hbs hk38 hf)

theorem w_X7_looks_38 {l : Launch} {X : SCR} {Q : PST} {bc bs : Nat} {res : Int32 ⊕ String} {h : HP} (hQ : ∀ sz', Q (outT res) h sz') (hlt : l.stackTraces = false) (hX2 : X.2 = some []) (hbc : 1 ≤ bc) (hbs : 6 ≤ bs) {v0 : Nat} : ∀ (n : Nat) {v2 : Int32} {v3 : Int32} {v4 : Int32} {sz : Nat}, b_X7_looks_38 h v0 n v2 v3 v4 = some res → SP l X M_X7_looks 38 [(0, .ref v0), (2, .int v2), (3, .int v3), (4, .int v4)] [] h sz bc bs Q := by
  intro n
  induction n with
  | zero =>
    intro v2 v3 v4 sz hf
    rw [b_X7_looks_38] at hf
    cases hf
  | succ n ih =>
    intro v2 v3 v4 sz hf
    rw [b_X7_looks_38] at hf
    exact wc_X7_looks_38 hQ hlt hX2 hbc hbs (fun v2 v3 v4 sz hf => ih hf) hf

theorem w_X7_looks_0 {l : Launch} {X : SCR} {Q : PST} {bc bs : Nat} {res : Int32 ⊕ String} {h : HP} (hQ : ∀ sz', Q (outT res) h sz') (hlt : l.stackTraces = false) (hX2 : X.2 = some []) (hbc : 1 ≤ bc) (hbs : 6 ≤ bs) {v0 : Nat} {v1 : Int32} {sz : Nat} (hf : b_X7_looks_0 h v0 v1  = some res) : SP l X M_X7_looks 0 [(0, .ref v0), (1, .int v1)] [] h sz bc bs Q := by
  rw [b_X7_looks_0] at hf
  refine sp_iload_n (pc := 0) dX7_looks_0 1 rfl ?_
  obtain ⟨y1, ey1, hf⟩ := ob hf
  refine sp_callSi (pc := 1) (z := M_X7_isKey) (As := [.int v1]) (bc2 := bc) (bs2 := bs) (m_X7_isKey (Q := _) (fun sz => ⟨y1, rfl, ?_⟩) ey1) rfl dX7_looks_1 rfl ck_X7_looks_134 (Nat.le_of_ble_eq_true rfl) rfl rfl rfl
  refine sp_if_ne (pc := 4) (tgt := 17) dX7_looks_4 (by decide) (fun c2 => ?_) (fun c2 => ?_)
  · rw [if_neg c2] at hf
    refine sp_aload_n (pc := 17) dX7_looks_17 0 rfl ?_
    obtain ⟨x3, ex3, hf⟩ := ob hf
    refine sp_gR (pc := 18) fl_RX7_24 dX7_looks_18 ex3 ?_
    refine sp_iload_n (pc := 21) dX7_looks_21 1 rfl ?_
    refine sp_aload_n (pc := 22) dX7_looks_22 0 rfl ?_
    obtain ⟨x4, ex4, hf⟩ := ob hf
    refine sp_gR (pc := 23) fl_RX7_24 dX7_looks_23 ex4 ?_
    obtain ⟨y5, ey5, hf⟩ := ob hf
    obtain ⟨fsy5, hoy5⟩ := o_X3_latest ey5
    refine sp_callVi (pc := 26) (z := M_X3_latest) (As := []) (b := x4) (bc2 := bc) (bs2 := bs) (m_X3_latest (Q := _) (fun sz => ⟨y5, rfl, ?_⟩) ey5) rfl dX7_looks_26 hoy5 rfl rfl ck_X7_looks_98 (Nat.le_of_ble_eq_true rfl) rfl rfl rfl
    obtain ⟨y6, ey6, hf⟩ := ob hf
    obtain ⟨fsy6, hoy6⟩ := o_X3_newestFor ey6
    refine sp_callVi (pc := 29) (z := M_X3_newestFor) (As := [.int v1, .int y5]) (b := x3) (bc2 := bc) (bs2 := bs) (m_X3_newestFor (Q := _) (fun sz => ⟨y6, rfl, ?_⟩) ey6) rfl dX7_looks_29 hoy6 rfl rfl ck_X7_looks_251 (Nat.le_of_ble_eq_true rfl) rfl rfl rfl
    refine sp_istore_n (pc := 32) (lv' := [(2, .int y6), (0, .ref v0), (1, .int v1)]) dX7_looks_32 (by decide) rfl ?_
    refine sp_iconst (pc := 33) (v := 0) dX7_looks_33 (by decide) ?_
    refine sp_istore_n (pc := 34) (lv' := [(3, .int 0), (2, .int y6), (0, .ref v0), (1, .int v1)]) dX7_looks_34 (by decide) rfl ?_
    refine sp_iconst (pc := 35) (v := (-1)) dX7_looks_35 (by decide) ?_
    refine sp_istore (pc := 36) (lv' := [(4, .int (-1)), (3, .int 0), (2, .int y6), (0, .ref v0), (1, .int v1)]) dX7_looks_36 (by decide) rfl ?_
    exact sp_sub [3, 2, 1, 0] rfl (w_X7_looks_38 hQ hlt hX2 hbc hbs FU hf)
  · rw [if_pos c2] at hf
    obtain rfl := Option.some.inj hf
    exact sp_throwS (pc := 7) tr_RX7_140_192_144 hlt hX2 dX7_looks_7 dX7_looks_10 dX7_looks_11 dX7_looks_13 dX7_looks_16 (by decide) (Nat.le_of_ble_eq_true rfl) hbc hbs hQ

theorem o_X7_looks {h : HP} {v0 : Nat} {v1 : Int32} {res : Int32 ⊕ String} (hf : f_X7_looks h v0 v1 = some res) : ∃ fs, h v0 = some (.inr (7, fs)) := by
  obtain ⟨u, eu, -⟩ := ob hf
  exact kO_spec eu

theorem m_X7_looks {l : Launch} {Q : PST} {h : HP} {v0 : Nat} {v1 : Int32} {sz : Nat} {res : Int32 ⊕ String} (hQ : ∀ sz', Q (outT res) h sz') (hlt : l.stackTraces = false) (hf : f_X7_looks h v0 v1 = some res) : MM l M_X7_looks [.ref v0, .int v1] h sz Q := by
  obtain ⟨u, eu, hf⟩ := ob hf
  exact MM_of wok_X7_looks (by decide +kernel) (Nat.le_of_ble_eq_true rfl) ((w_X7_looks_0 hQ hlt rfl (by decide) (by decide) hf))

theorem dX7_next_0 : decode (mB M_X7_next) 0 = .ok (.iload_n 1, 1) := by decide +kernel
theorem dX7_next_1 : decode (mB M_X7_next) 1 = .ok (.invokestatic 134, 3) := by decide +kernel
theorem dX7_next_4 : decode (mB M_X7_next) 4 = .ok (.ifCond .eq 14, 3) := by decide +kernel
theorem dX7_next_7 : decode (mB M_X7_next) 7 = .ok (.aload_n 0, 1) := by decide +kernel
theorem dX7_next_8 : decode (mB M_X7_next) 8 = .ok (.getfield 24, 3) := by decide +kernel
theorem dX7_next_11 : decode (mB M_X7_next) 11 = .ok (.iload_n 2, 1) := by decide +kernel
theorem dX7_next_12 : decode (mB M_X7_next) 12 = .ok (.invokevirtual 137, 3) := by decide +kernel
theorem dX7_next_15 : decode (mB M_X7_next) 15 = .ok (.ifCond .ne 13, 3) := by decide +kernel
theorem dX7_next_18 : decode (mB M_X7_next) 18 = .ok (.new 140, 3) := by decide +kernel
theorem dX7_next_21 : decode (mB M_X7_next) 21 = .ok (.dup, 1) := by decide +kernel
theorem dX7_next_22 : decode (mB M_X7_next) 22 = .ok (.ldc 142, 2) := by decide +kernel
theorem dX7_next_24 : decode (mB M_X7_next) 24 = .ok (.invokespecial 144, 3) := by decide +kernel
theorem dX7_next_27 : decode (mB M_X7_next) 27 = .ok (.athrow, 1) := by decide +kernel
theorem dX7_next_28 : decode (mB M_X7_next) 28 = .ok (.aload_n 0, 1) := by decide +kernel
theorem dX7_next_29 : decode (mB M_X7_next) 29 = .ok (.getfield 51, 3) := by decide +kernel
theorem dX7_next_32 : decode (mB M_X7_next) 32 = .ok (.aload_n 0, 1) := by decide +kernel
theorem dX7_next_33 : decode (mB M_X7_next) 33 = .ok (.getfield 24, 3) := by decide +kernel
theorem dX7_next_36 : decode (mB M_X7_next) 36 = .ok (.aload_n 0, 1) := by decide +kernel
theorem dX7_next_37 : decode (mB M_X7_next) 37 = .ok (.getfield 24, 3) := by decide +kernel
theorem dX7_next_40 : decode (mB M_X7_next) 40 = .ok (.iload_n 2, 1) := by decide +kernel
theorem dX7_next_41 : decode (mB M_X7_next) 41 = .ok (.invokevirtual 145, 3) := by decide +kernel
theorem dX7_next_44 : decode (mB M_X7_next) 44 = .ok (.invokevirtual 122, 3) := by decide +kernel
theorem dX7_next_47 : decode (mB M_X7_next) 47 = .ok (.aload_n 0, 1) := by decide +kernel
theorem dX7_next_48 : decode (mB M_X7_next) 48 = .ok (.getfield 51, 3) := by decide +kernel
theorem dX7_next_51 : decode (mB M_X7_next) 51 = .ok (.iload_n 1, 1) := by decide +kernel
theorem dX7_next_52 : decode (mB M_X7_next) 52 = .ok (.invokevirtual 254, 3) := by decide +kernel
theorem dX7_next_55 : decode (mB M_X7_next) 55 = .ok (.ireturn, 1) := by decide +kernel
def b_X7_next_18 (h : HP) : Option ((Int32 ⊕ String) × HP) :=
  some (.inr "java/lang/IndexOutOfBoundsException", h)
def b_X7_next_0 (v0 : Nat) (v1 : Int32) (v2 : Int32) (h : HP) : Option ((Int32 ⊕ String) × HP) :=
  (f_X7_isKey h v1).bind fun y1 => if y1 = 0 then b_X7_next_18 h else (gR 7 1 h v0).bind fun x3 => (f_X3_isView h x3 v2).bind fun y4 => if y4 = 0 then b_X7_next_18 h else (gR 7 6 h v0).bind fun x6 => (gR 7 1 h v0).bind fun x7 => (gR 7 1 h v0).bind fun x8 => (f_X3_limitOf h x8 v2).bind fun y9 => (f_X5_look h x6 x7 y9).bind fun y10 => (gR 7 6 y10 v0).bind fun x11 => (f_X5_firstSeen y10 x11 v1).bind fun y12 => some (.inl y12, y10)
def f_X7_next (h : HP) (v0 : Nat) (v1 : Int32) (v2 : Int32) : Option ((Int32 ⊕ String) × HP) := (kO 7 h v0).bind fun _ => b_X7_next_0 v0 v1 v2 h
theorem w_X7_next_18 {l : Launch} {X : SCR} {Q : PST} {bc bs : Nat} {res : (Int32 ⊕ String) × HP} {h : HP} (hQ : ∀ sz', Q (outT res.1) res.2 sz') (hlt : l.stackTraces = false) (hX2 : X.2 = some []) (hbc : 1 ≤ bc) (hbs : 6 ≤ bs) {sz : Nat} (hf : b_X7_next_18 h  = some res) : SP l X M_X7_next 18 [] [] h sz bc bs Q := by
  rw [b_X7_next_18] at hf
  obtain rfl := Option.some.inj hf
  exact sp_throwS (pc := 18) tr_RX7_140_142_144 hlt hX2 dX7_next_18 dX7_next_21 dX7_next_22 dX7_next_24 dX7_next_27 (by decide) (Nat.le_of_ble_eq_true rfl) hbc hbs hQ

theorem w_X7_next_0 {l : Launch} {X : SCR} {Q : PST} {bc bs : Nat} {res : (Int32 ⊕ String) × HP} {h : HP} (hQ : ∀ sz', Q (outT res.1) res.2 sz') (hlt : l.stackTraces = false) (hX2 : X.2 = some []) (hbc : 1 ≤ bc) (hbs : 6 ≤ bs) {v0 : Nat} {v1 : Int32} {v2 : Int32} {sz : Nat} (hf : b_X7_next_0 v0 v1 v2 h  = some res) : SP l X M_X7_next 0 [(0, .ref v0), (1, .int v1), (2, .int v2)] [] h sz bc bs Q := by
  rw [b_X7_next_0] at hf
  refine sp_iload_n (pc := 0) dX7_next_0 1 rfl ?_
  obtain ⟨y1, ey1, hf⟩ := ob hf
  refine sp_callSi (pc := 1) (z := M_X7_isKey) (As := [.int v1]) (bc2 := bc) (bs2 := bs) (m_X7_isKey (Q := _) (fun sz => ⟨y1, rfl, ?_⟩) ey1) rfl dX7_next_1 rfl ck_X7_next_134 (Nat.le_of_ble_eq_true rfl) rfl rfl rfl
  refine sp_if_eq (pc := 4) (tgt := 18) dX7_next_4 (by decide) (fun c2 => ?_) (fun c2 => ?_)
  · rw [if_pos c2] at hf
    exact sp_sub [] rfl (w_X7_next_18 hQ hlt hX2 hbc hbs hf)
  · rw [if_neg c2] at hf
    refine sp_aload_n (pc := 7) dX7_next_7 0 rfl ?_
    obtain ⟨x3, ex3, hf⟩ := ob hf
    refine sp_gR (pc := 8) fl_RX7_24 dX7_next_8 ex3 ?_
    refine sp_iload_n (pc := 11) dX7_next_11 2 rfl ?_
    obtain ⟨y4, ey4, hf⟩ := ob hf
    obtain ⟨fsy4, hoy4⟩ := o_X3_isView ey4
    refine sp_callVi (pc := 12) (z := M_X3_isView) (As := [.int v2]) (b := x3) (bc2 := bc) (bs2 := bs) (m_X3_isView (Q := _) (fun sz => ⟨y4, rfl, ?_⟩) ey4) rfl dX7_next_12 hoy4 rfl rfl ck_X7_next_137 (Nat.le_of_ble_eq_true rfl) rfl rfl rfl
    refine sp_if_ne (pc := 15) (tgt := 28) dX7_next_15 (by decide) (fun c5 => ?_) (fun c5 => ?_)
    · rw [if_neg c5] at hf
      refine sp_aload_n (pc := 28) dX7_next_28 0 rfl ?_
      obtain ⟨x6, ex6, hf⟩ := ob hf
      refine sp_gR (pc := 29) fl_RX7_51 dX7_next_29 ex6 ?_
      refine sp_aload_n (pc := 32) dX7_next_32 0 rfl ?_
      obtain ⟨x7, ex7, hf⟩ := ob hf
      refine sp_gR (pc := 33) fl_RX7_24 dX7_next_33 ex7 ?_
      refine sp_aload_n (pc := 36) dX7_next_36 0 rfl ?_
      obtain ⟨x8, ex8, hf⟩ := ob hf
      refine sp_gR (pc := 37) fl_RX7_24 dX7_next_37 ex8 ?_
      refine sp_iload_n (pc := 40) dX7_next_40 2 rfl ?_
      obtain ⟨y9, ey9, hf⟩ := ob hf
      obtain ⟨fsy9, hoy9⟩ := o_X3_limitOf ey9
      refine sp_callVi (pc := 41) (z := M_X3_limitOf) (As := [.int v2]) (b := x8) (bc2 := bc) (bs2 := bs) (m_X3_limitOf (Q := _) (fun sz => ⟨y9, rfl, ?_⟩) ey9) rfl dX7_next_41 hoy9 rfl rfl ck_X7_next_145 (Nat.le_of_ble_eq_true rfl) rfl rfl rfl
      obtain ⟨y10, ey10, hf⟩ := ob hf
      obtain ⟨fsy10, hoy10⟩ := o_X5_look ey10
      refine sp_callVv (pc := 44) (z := M_X5_look) (As := [.ref x7, .int y9]) (b := x6) (bc2 := bc) (bs2 := bs) (m_X5_look (Q := _) (fun sz => ⟨(), rfl, ?_⟩) ey10) rfl dX7_next_44 hoy10 rfl rfl ck_X7_next_122 (Nat.le_of_ble_eq_true rfl) rfl rfl rfl
      refine sp_aload_n (pc := 47) dX7_next_47 0 rfl ?_
      obtain ⟨x11, ex11, hf⟩ := ob hf
      refine sp_gR (pc := 48) fl_RX7_51 dX7_next_48 ex11 ?_
      refine sp_iload_n (pc := 51) dX7_next_51 1 rfl ?_
      obtain ⟨y12, ey12, hf⟩ := ob hf
      obtain ⟨fsy12, hoy12⟩ := o_X5_firstSeen ey12
      refine sp_callVi (pc := 52) (z := M_X5_firstSeen) (As := [.int v1]) (b := x11) (bc2 := bc) (bs2 := bs) (m_X5_firstSeen (Q := _) (fun sz => ⟨y12, rfl, ?_⟩) ey12) rfl dX7_next_52 hoy12 rfl rfl ck_X7_next_254 (Nat.le_of_ble_eq_true rfl) rfl rfl rfl
      obtain rfl := Option.some.inj hf
      exact sp_ireturn (pc := 55) dX7_next_55 rfl rfl (hQ _)
    · rw [if_pos c5] at hf
      exact sp_sub [] rfl (w_X7_next_18 hQ hlt hX2 hbc hbs hf)

theorem o_X7_next {h : HP} {v0 : Nat} {v1 : Int32} {v2 : Int32} {res : (Int32 ⊕ String) × HP} (hf : f_X7_next h v0 v1 v2 = some res) : ∃ fs, h v0 = some (.inr (7, fs)) := by
  obtain ⟨u, eu, -⟩ := ob hf
  exact kO_spec eu

theorem m_X7_next {l : Launch} {Q : PST} {h : HP} {v0 : Nat} {v1 : Int32} {v2 : Int32} {sz : Nat} {res : (Int32 ⊕ String) × HP} (hQ : ∀ sz', Q (outT res.1) res.2 sz') (hlt : l.stackTraces = false) (hf : f_X7_next h v0 v1 v2 = some res) : MM l M_X7_next [.ref v0, .int v1, .int v2] h sz Q := by
  obtain ⟨u, eu, hf⟩ := ob hf
  exact MM_of wok_X7_next (by decide +kernel) (Nat.le_of_ble_eq_true rfl) ((w_X7_next_0 hQ hlt rfl (by decide) (by decide) hf))

theorem dX7_count_0 : decode (mB M_X7_count) 0 = .ok (.iload_n 1, 1) := by decide +kernel
theorem dX7_count_1 : decode (mB M_X7_count) 1 = .ok (.invokestatic 134, 3) := by decide +kernel
theorem dX7_count_4 : decode (mB M_X7_count) 4 = .ok (.ifCond .eq 21, 3) := by decide +kernel
theorem dX7_count_7 : decode (mB M_X7_count) 7 = .ok (.iload_n 2, 1) := by decide +kernel
theorem dX7_count_8 : decode (mB M_X7_count) 8 = .ok (.invokestatic 134, 3) := by decide +kernel
theorem dX7_count_11 : decode (mB M_X7_count) 11 = .ok (.ifCond .eq 14, 3) := by decide +kernel
theorem dX7_count_14 : decode (mB M_X7_count) 14 = .ok (.aload_n 0, 1) := by decide +kernel
theorem dX7_count_15 : decode (mB M_X7_count) 15 = .ok (.getfield 24, 3) := by decide +kernel
theorem dX7_count_18 : decode (mB M_X7_count) 18 = .ok (.iload_n 3, 1) := by decide +kernel
theorem dX7_count_19 : decode (mB M_X7_count) 19 = .ok (.invokevirtual 137, 3) := by decide +kernel
theorem dX7_count_22 : decode (mB M_X7_count) 22 = .ok (.ifCond .ne 13, 3) := by decide +kernel
theorem dX7_count_25 : decode (mB M_X7_count) 25 = .ok (.new 140, 3) := by decide +kernel
theorem dX7_count_28 : decode (mB M_X7_count) 28 = .ok (.dup, 1) := by decide +kernel
theorem dX7_count_29 : decode (mB M_X7_count) 29 = .ok (.ldc 142, 2) := by decide +kernel
theorem dX7_count_31 : decode (mB M_X7_count) 31 = .ok (.invokespecial 144, 3) := by decide +kernel
theorem dX7_count_34 : decode (mB M_X7_count) 34 = .ok (.athrow, 1) := by decide +kernel
theorem dX7_count_35 : decode (mB M_X7_count) 35 = .ok (.iload_n 2, 1) := by decide +kernel
theorem dX7_count_36 : decode (mB M_X7_count) 36 = .ok (.iload_n 1, 1) := by decide +kernel
theorem dX7_count_37 : decode (mB M_X7_count) 37 = .ok (.if_icmp .ge 13, 3) := by decide +kernel
theorem dX7_count_40 : decode (mB M_X7_count) 40 = .ok (.new 55, 3) := by decide +kernel
theorem dX7_count_43 : decode (mB M_X7_count) 43 = .ok (.dup, 1) := by decide +kernel
theorem dX7_count_44 : decode (mB M_X7_count) 44 = .ok (.ldc 210, 2) := by decide +kernel
theorem dX7_count_46 : decode (mB M_X7_count) 46 = .ok (.invokespecial 59, 3) := by decide +kernel
theorem dX7_count_49 : decode (mB M_X7_count) 49 = .ok (.athrow, 1) := by decide +kernel
theorem dX7_count_50 : decode (mB M_X7_count) 50 = .ok (.aload_n 0, 1) := by decide +kernel
theorem dX7_count_51 : decode (mB M_X7_count) 51 = .ok (.getfield 51, 3) := by decide +kernel
theorem dX7_count_54 : decode (mB M_X7_count) 54 = .ok (.aload_n 0, 1) := by decide +kernel
theorem dX7_count_55 : decode (mB M_X7_count) 55 = .ok (.getfield 24, 3) := by decide +kernel
theorem dX7_count_58 : decode (mB M_X7_count) 58 = .ok (.aload_n 0, 1) := by decide +kernel
theorem dX7_count_59 : decode (mB M_X7_count) 59 = .ok (.getfield 24, 3) := by decide +kernel
theorem dX7_count_62 : decode (mB M_X7_count) 62 = .ok (.iload_n 3, 1) := by decide +kernel
theorem dX7_count_63 : decode (mB M_X7_count) 63 = .ok (.invokevirtual 145, 3) := by decide +kernel
theorem dX7_count_66 : decode (mB M_X7_count) 66 = .ok (.invokevirtual 122, 3) := by decide +kernel
theorem dX7_count_69 : decode (mB M_X7_count) 69 = .ok (.aload_n 0, 1) := by decide +kernel
theorem dX7_count_70 : decode (mB M_X7_count) 70 = .ok (.getfield 51, 3) := by decide +kernel
theorem dX7_count_73 : decode (mB M_X7_count) 73 = .ok (.iload_n 1, 1) := by decide +kernel
theorem dX7_count_74 : decode (mB M_X7_count) 74 = .ok (.iload_n 2, 1) := by decide +kernel
theorem dX7_count_75 : decode (mB M_X7_count) 75 = .ok (.invokevirtual 212, 3) := by decide +kernel
theorem dX7_count_78 : decode (mB M_X7_count) 78 = .ok (.ireturn, 1) := by decide +kernel
def b_X7_count_25 (h : HP) : Option ((Int32 ⊕ String) × HP) :=
  some (.inr "java/lang/IndexOutOfBoundsException", h)
def b_X7_count_0 (v0 : Nat) (v1 : Int32) (v2 : Int32) (v3 : Int32) (h : HP) : Option ((Int32 ⊕ String) × HP) :=
  (f_X7_isKey h v1).bind fun y1 => if y1 = 0 then b_X7_count_25 h else (f_X7_isKey h v2).bind fun y3 => if y3 = 0 then b_X7_count_25 h else (gR 7 1 h v0).bind fun x5 => (f_X3_isView h x5 v3).bind fun y6 => if y6 = 0 then b_X7_count_25 h else if v1 ≤ v2 then (gR 7 6 h v0).bind fun x9 => (gR 7 1 h v0).bind fun x10 => (gR 7 1 h v0).bind fun x11 => (f_X3_limitOf h x11 v3).bind fun y12 => (f_X5_look h x9 x10 y12).bind fun y13 => (gR 7 6 y13 v0).bind fun x14 => (f_X5_seenIn y13 x14 v1 v2).bind fun y15 => some (.inl y15, y13) else some (.inr "java/lang/IllegalArgumentException", h)
def f_X7_count (h : HP) (v0 : Nat) (v1 : Int32) (v2 : Int32) (v3 : Int32) : Option ((Int32 ⊕ String) × HP) := (kO 7 h v0).bind fun _ => b_X7_count_0 v0 v1 v2 v3 h
theorem w_X7_count_25 {l : Launch} {X : SCR} {Q : PST} {bc bs : Nat} {res : (Int32 ⊕ String) × HP} {h : HP} (hQ : ∀ sz', Q (outT res.1) res.2 sz') (hlt : l.stackTraces = false) (hX2 : X.2 = some []) (hbc : 1 ≤ bc) (hbs : 6 ≤ bs) {sz : Nat} (hf : b_X7_count_25 h  = some res) : SP l X M_X7_count 25 [] [] h sz bc bs Q := by
  rw [b_X7_count_25] at hf
  obtain rfl := Option.some.inj hf
  exact sp_throwS (pc := 25) tr_RX7_140_142_144 hlt hX2 dX7_count_25 dX7_count_28 dX7_count_29 dX7_count_31 dX7_count_34 (by decide) (Nat.le_of_ble_eq_true rfl) hbc hbs hQ

theorem w_X7_count_0 {l : Launch} {X : SCR} {Q : PST} {bc bs : Nat} {res : (Int32 ⊕ String) × HP} {h : HP} (hQ : ∀ sz', Q (outT res.1) res.2 sz') (hlt : l.stackTraces = false) (hX2 : X.2 = some []) (hbc : 1 ≤ bc) (hbs : 6 ≤ bs) {v0 : Nat} {v1 : Int32} {v2 : Int32} {v3 : Int32} {sz : Nat} (hf : b_X7_count_0 v0 v1 v2 v3 h  = some res) : SP l X M_X7_count 0 [(0, .ref v0), (1, .int v1), (2, .int v2), (3, .int v3)] [] h sz bc bs Q := by
  rw [b_X7_count_0] at hf
  refine sp_iload_n (pc := 0) dX7_count_0 1 rfl ?_
  obtain ⟨y1, ey1, hf⟩ := ob hf
  refine sp_callSi (pc := 1) (z := M_X7_isKey) (As := [.int v1]) (bc2 := bc) (bs2 := bs) (m_X7_isKey (Q := _) (fun sz => ⟨y1, rfl, ?_⟩) ey1) rfl dX7_count_1 rfl ck_X7_count_134 (Nat.le_of_ble_eq_true rfl) rfl rfl rfl
  refine sp_if_eq (pc := 4) (tgt := 25) dX7_count_4 (by decide) (fun c2 => ?_) (fun c2 => ?_)
  · rw [if_pos c2] at hf
    exact sp_sub [] rfl (w_X7_count_25 hQ hlt hX2 hbc hbs hf)
  · rw [if_neg c2] at hf
    refine sp_iload_n (pc := 7) dX7_count_7 2 rfl ?_
    obtain ⟨y3, ey3, hf⟩ := ob hf
    refine sp_callSi (pc := 8) (z := M_X7_isKey) (As := [.int v2]) (bc2 := bc) (bs2 := bs) (m_X7_isKey (Q := _) (fun sz => ⟨y3, rfl, ?_⟩) ey3) rfl dX7_count_8 rfl ck_X7_count_134 (Nat.le_of_ble_eq_true rfl) rfl rfl rfl
    refine sp_if_eq (pc := 11) (tgt := 25) dX7_count_11 (by decide) (fun c4 => ?_) (fun c4 => ?_)
    · rw [if_pos c4] at hf
      exact sp_sub [] rfl (w_X7_count_25 hQ hlt hX2 hbc hbs hf)
    · rw [if_neg c4] at hf
      refine sp_aload_n (pc := 14) dX7_count_14 0 rfl ?_
      obtain ⟨x5, ex5, hf⟩ := ob hf
      refine sp_gR (pc := 15) fl_RX7_24 dX7_count_15 ex5 ?_
      refine sp_iload_n (pc := 18) dX7_count_18 3 rfl ?_
      obtain ⟨y6, ey6, hf⟩ := ob hf
      obtain ⟨fsy6, hoy6⟩ := o_X3_isView ey6
      refine sp_callVi (pc := 19) (z := M_X3_isView) (As := [.int v3]) (b := x5) (bc2 := bc) (bs2 := bs) (m_X3_isView (Q := _) (fun sz => ⟨y6, rfl, ?_⟩) ey6) rfl dX7_count_19 hoy6 rfl rfl ck_X7_count_137 (Nat.le_of_ble_eq_true rfl) rfl rfl rfl
      refine sp_if_ne (pc := 22) (tgt := 35) dX7_count_22 (by decide) (fun c7 => ?_) (fun c7 => ?_)
      · rw [if_neg c7] at hf
        refine sp_iload_n (pc := 35) dX7_count_35 2 rfl ?_
        refine sp_iload_n (pc := 36) dX7_count_36 1 rfl ?_
        refine sp_icmp_ge (pc := 37) (tgt := 50) dX7_count_37 (by decide) (fun c8 => ?_) (fun c8 => ?_)
        · rw [if_pos c8] at hf
          refine sp_aload_n (pc := 50) dX7_count_50 0 rfl ?_
          obtain ⟨x9, ex9, hf⟩ := ob hf
          refine sp_gR (pc := 51) fl_RX7_51 dX7_count_51 ex9 ?_
          refine sp_aload_n (pc := 54) dX7_count_54 0 rfl ?_
          obtain ⟨x10, ex10, hf⟩ := ob hf
          refine sp_gR (pc := 55) fl_RX7_24 dX7_count_55 ex10 ?_
          refine sp_aload_n (pc := 58) dX7_count_58 0 rfl ?_
          obtain ⟨x11, ex11, hf⟩ := ob hf
          refine sp_gR (pc := 59) fl_RX7_24 dX7_count_59 ex11 ?_
          refine sp_iload_n (pc := 62) dX7_count_62 3 rfl ?_
          obtain ⟨y12, ey12, hf⟩ := ob hf
          obtain ⟨fsy12, hoy12⟩ := o_X3_limitOf ey12
          refine sp_callVi (pc := 63) (z := M_X3_limitOf) (As := [.int v3]) (b := x11) (bc2 := bc) (bs2 := bs) (m_X3_limitOf (Q := _) (fun sz => ⟨y12, rfl, ?_⟩) ey12) rfl dX7_count_63 hoy12 rfl rfl ck_X7_count_145 (Nat.le_of_ble_eq_true rfl) rfl rfl rfl
          obtain ⟨y13, ey13, hf⟩ := ob hf
          obtain ⟨fsy13, hoy13⟩ := o_X5_look ey13
          refine sp_callVv (pc := 66) (z := M_X5_look) (As := [.ref x10, .int y12]) (b := x9) (bc2 := bc) (bs2 := bs) (m_X5_look (Q := _) (fun sz => ⟨(), rfl, ?_⟩) ey13) rfl dX7_count_66 hoy13 rfl rfl ck_X7_count_122 (Nat.le_of_ble_eq_true rfl) rfl rfl rfl
          refine sp_aload_n (pc := 69) dX7_count_69 0 rfl ?_
          obtain ⟨x14, ex14, hf⟩ := ob hf
          refine sp_gR (pc := 70) fl_RX7_51 dX7_count_70 ex14 ?_
          refine sp_iload_n (pc := 73) dX7_count_73 1 rfl ?_
          refine sp_iload_n (pc := 74) dX7_count_74 2 rfl ?_
          obtain ⟨y15, ey15, hf⟩ := ob hf
          obtain ⟨fsy15, hoy15⟩ := o_X5_seenIn ey15
          refine sp_callVi (pc := 75) (z := M_X5_seenIn) (As := [.int v1, .int v2]) (b := x14) (bc2 := bc) (bs2 := bs) (m_X5_seenIn (Q := _) (fun sz => ⟨y15, rfl, ?_⟩) ey15) rfl dX7_count_75 hoy15 rfl rfl ck_X7_count_212 (Nat.le_of_ble_eq_true rfl) rfl rfl rfl
          obtain rfl := Option.some.inj hf
          exact sp_ireturn (pc := 78) dX7_count_78 rfl rfl (hQ _)
        · rw [if_neg c8] at hf
          obtain rfl := Option.some.inj hf
          exact sp_throwS (pc := 40) tr_RX7_55_210_59 hlt hX2 dX7_count_40 dX7_count_43 dX7_count_44 dX7_count_46 dX7_count_49 (by decide) (Nat.le_of_ble_eq_true rfl) hbc hbs hQ
      · rw [if_pos c7] at hf
        exact sp_sub [] rfl (w_X7_count_25 hQ hlt hX2 hbc hbs hf)

theorem o_X7_count {h : HP} {v0 : Nat} {v1 : Int32} {v2 : Int32} {v3 : Int32} {res : (Int32 ⊕ String) × HP} (hf : f_X7_count h v0 v1 v2 v3 = some res) : ∃ fs, h v0 = some (.inr (7, fs)) := by
  obtain ⟨u, eu, -⟩ := ob hf
  exact kO_spec eu

theorem m_X7_count {l : Launch} {Q : PST} {h : HP} {v0 : Nat} {v1 : Int32} {v2 : Int32} {v3 : Int32} {sz : Nat} {res : (Int32 ⊕ String) × HP} (hQ : ∀ sz', Q (outT res.1) res.2 sz') (hlt : l.stackTraces = false) (hf : f_X7_count h v0 v1 v2 v3 = some res) : MM l M_X7_count [.ref v0, .int v1, .int v2, .int v3] h sz Q := by
  obtain ⟨u, eu, hf⟩ := ob hf
  exact MM_of wok_X7_count (by decide +kernel) (Nat.le_of_ble_eq_true rfl) ((w_X7_count_0 hQ hlt rfl (by decide) (by decide) hf))

theorem dX7_hidden_0 : decode (mB M_X7_hidden) 0 = .ok (.iconst 0, 1) := by decide +kernel
theorem dX7_hidden_1 : decode (mB M_X7_hidden) 1 = .ok (.istore_n 1, 1) := by decide +kernel
theorem dX7_hidden_2 : decode (mB M_X7_hidden) 2 = .ok (.iconst 0, 1) := by decide +kernel
theorem dX7_hidden_3 : decode (mB M_X7_hidden) 3 = .ok (.istore_n 2, 1) := by decide +kernel
theorem dX7_hidden_4 : decode (mB M_X7_hidden) 4 = .ok (.iload_n 2, 1) := by decide +kernel
theorem dX7_hidden_5 : decode (mB M_X7_hidden) 5 = .ok (.aload_n 0, 1) := by decide +kernel
theorem dX7_hidden_6 : decode (mB M_X7_hidden) 6 = .ok (.getfield 24, 3) := by decide +kernel
theorem dX7_hidden_9 : decode (mB M_X7_hidden) 9 = .ok (.invokevirtual 111, 3) := by decide +kernel
theorem dX7_hidden_12 : decode (mB M_X7_hidden) 12 = .ok (.if_icmp .ge 37, 3) := by decide +kernel
theorem dX7_hidden_15 : decode (mB M_X7_hidden) 15 = .ok (.aload_n 0, 1) := by decide +kernel
theorem dX7_hidden_16 : decode (mB M_X7_hidden) 16 = .ok (.getfield 24, 3) := by decide +kernel
theorem dX7_hidden_19 : decode (mB M_X7_hidden) 19 = .ok (.getfield 162, 3) := by decide +kernel
theorem dX7_hidden_22 : decode (mB M_X7_hidden) 22 = .ok (.iload_n 2, 1) := by decide +kernel
theorem dX7_hidden_23 : decode (mB M_X7_hidden) 23 = .ok (.invokevirtual 257, 3) := by decide +kernel
theorem dX7_hidden_26 : decode (mB M_X7_hidden) 26 = .ok (.ifCond .eq 17, 3) := by decide +kernel
theorem dX7_hidden_29 : decode (mB M_X7_hidden) 29 = .ok (.aload_n 0, 1) := by decide +kernel
theorem dX7_hidden_30 : decode (mB M_X7_hidden) 30 = .ok (.getfield 24, 3) := by decide +kernel
theorem dX7_hidden_33 : decode (mB M_X7_hidden) 33 = .ok (.iload_n 2, 1) := by decide +kernel
theorem dX7_hidden_34 : decode (mB M_X7_hidden) 34 = .ok (.invokevirtual 260, 3) := by decide +kernel
theorem dX7_hidden_37 : decode (mB M_X7_hidden) 37 = .ok (.ifCond .ne 6, 3) := by decide +kernel
theorem dX7_hidden_40 : decode (mB M_X7_hidden) 40 = .ok (.iinc 1 1, 3) := by decide +kernel
theorem dX7_hidden_43 : decode (mB M_X7_hidden) 43 = .ok (.iinc 2 1, 3) := by decide +kernel
theorem dX7_hidden_46 : decode (mB M_X7_hidden) 46 = .ok (.goto (-42), 3) := by decide +kernel
theorem dX7_hidden_49 : decode (mB M_X7_hidden) 49 = .ok (.iload_n 1, 1) := by decide +kernel
theorem dX7_hidden_50 : decode (mB M_X7_hidden) 50 = .ok (.ireturn, 1) := by decide +kernel
def c_X7_hidden_4 (h : HP) (v0 : Nat) (k4 : Int32 → Int32 → Option (Int32)) (v1 : Int32) (v2 : Int32) : Option (Int32) :=
  (gR 7 1 h v0).bind fun x1 => (f_X3_size h x1).bind fun y2 => if y2 ≤ v2 then some (v1) else (gR 7 1 h v0).bind fun x4 => (gR 3 1 h x4).bind fun x5 => (f_X6_isEntry h x5 v2).bind fun y6 => if y6 = 0 then k4 v1 (v2 + 1) else (gR 7 1 h v0).bind fun x8 => (f_X3_isSeen h x8 v2).bind fun y9 => if y9 = 0 then k4 (v1 + 1) (v2 + 1) else k4 v1 (v2 + 1)
def b_X7_hidden_4 (h : HP) (v0 : Nat) : Nat → Int32 → Int32 → Option (Int32)
  | 0, _, _ => none
  | n + 1, v1, v2 => c_X7_hidden_4 h v0 (b_X7_hidden_4 h v0 n) v1 v2
def b_X7_hidden_0 (h : HP) (v0 : Nat) : Option (Int32) :=
  b_X7_hidden_4 h v0 FU 0 0
def f_X7_hidden (h : HP) (v0 : Nat) : Option (Int32) := (kO 7 h v0).bind fun _ => b_X7_hidden_0 h v0
theorem wc_X7_hidden_4 {l : Launch} {X : SCR} {Q : PST} {bc bs : Nat} {res : Int32} {h : HP} (hQ : ∀ sz', Q (.inl (some (.int res))) h sz') {v0 : Nat} {k4 : Int32 → Int32 → Option (Int32)} (hk4 : ∀ (v1 : Int32) (v2 : Int32) (sz : Nat), k4 v1 v2 = some res → SP l X M_X7_hidden 4 [(0, .ref v0), (1, .int v1), (2, .int v2)] [] h sz bc bs Q) {v1 : Int32} {v2 : Int32} {sz : Nat} (hf : c_X7_hidden_4 h v0 k4 v1 v2 = some res) : SP l X M_X7_hidden 4 [(0, .ref v0), (1, .int v1), (2, .int v2)] [] h sz bc bs Q := by
  rw [c_X7_hidden_4] at hf
  refine sp_iload_n (pc := 4) dX7_hidden_4 2 rfl ?_
  refine sp_aload_n (pc := 5) dX7_hidden_5 0 rfl ?_
  obtain ⟨x1, ex1, hf⟩ := ob hf
  refine sp_gR (pc := 6) fl_RX7_24 dX7_hidden_6 ex1 ?_
  obtain ⟨y2, ey2, hf⟩ := ob hf
  obtain ⟨fsy2, hoy2⟩ := o_X3_size ey2
  refine sp_callVi (pc := 9) (z := M_X3_size) (As := []) (b := x1) (bc2 := bc) (bs2 := bs) (m_X3_size (Q := _) (fun sz => ⟨y2, rfl, ?_⟩) ey2) rfl dX7_hidden_9 hoy2 rfl rfl ck_X7_hidden_111 (Nat.le_of_ble_eq_true rfl) rfl rfl rfl
  refine sp_icmp_ge (pc := 12) (tgt := 49) dX7_hidden_12 (by decide) (fun c3 => ?_) (fun c3 => ?_)
  · rw [if_pos c3] at hf
    refine sp_iload_n (pc := 49) dX7_hidden_49 1 rfl ?_
    obtain rfl := Option.some.inj hf
    exact sp_ireturn (pc := 50) dX7_hidden_50 rfl rfl (hQ _)
  · rw [if_neg c3] at hf
    refine sp_aload_n (pc := 15) dX7_hidden_15 0 rfl ?_
    obtain ⟨x4, ex4, hf⟩ := ob hf
    refine sp_gR (pc := 16) fl_RX7_24 dX7_hidden_16 ex4 ?_
    obtain ⟨x5, ex5, hf⟩ := ob hf
    refine sp_gR (pc := 19) fl_RX7_162 dX7_hidden_19 ex5 ?_
    refine sp_iload_n (pc := 22) dX7_hidden_22 2 rfl ?_
    obtain ⟨y6, ey6, hf⟩ := ob hf
    obtain ⟨fsy6, hoy6⟩ := o_X6_isEntry ey6
    refine sp_callVi (pc := 23) (z := M_X6_isEntry) (As := [.int v2]) (b := x5) (bc2 := bc) (bs2 := bs) (m_X6_isEntry (Q := _) (fun sz => ⟨y6, rfl, ?_⟩) ey6) rfl dX7_hidden_23 hoy6 rfl rfl ck_X7_hidden_257 (Nat.le_of_ble_eq_true rfl) rfl rfl rfl
    refine sp_if_eq (pc := 26) (tgt := 43) dX7_hidden_26 (by decide) (fun c7 => ?_) (fun c7 => ?_)
    · rw [if_pos c7] at hf
      refine sp_iinc (pc := 43) (v := v2 + 1) (lv' := [(2, .int (v2 + 1)), (0, .ref v0), (1, .int v1)]) dX7_hidden_43 2 rfl rfl (by decide) rfl ?_
      refine sp_goto (pc := 46) (tgt := 4) dX7_hidden_46 (by decide) ?_
      exact sp_sub [1, 2, 0] rfl (hk4 _ _ _ hf)
    · rw [if_neg c7] at hf
      refine sp_aload_n (pc := 29) dX7_hidden_29 0 rfl ?_
      obtain ⟨x8, ex8, hf⟩ := ob hf
      refine sp_gR (pc := 30) fl_RX7_24 dX7_hidden_30 ex8 ?_
      refine sp_iload_n (pc := 33) dX7_hidden_33 2 rfl ?_
      obtain ⟨y9, ey9, hf⟩ := ob hf
      obtain ⟨fsy9, hoy9⟩ := o_X3_isSeen ey9
      refine sp_callVi (pc := 34) (z := M_X3_isSeen) (As := [.int v2]) (b := x8) (bc2 := bc) (bs2 := bs) (m_X3_isSeen (Q := _) (fun sz => ⟨y9, rfl, ?_⟩) ey9) rfl dX7_hidden_34 hoy9 rfl rfl ck_X7_hidden_260 (Nat.le_of_ble_eq_true rfl) rfl rfl rfl
      refine sp_if_ne (pc := 37) (tgt := 43) dX7_hidden_37 (by decide) (fun c10 => ?_) (fun c10 => ?_)
      · rw [if_neg c10] at hf
        refine sp_iinc (pc := 43) (v := v2 + 1) (lv' := [(2, .int (v2 + 1)), (0, .ref v0), (1, .int v1)]) dX7_hidden_43 2 rfl rfl (by decide) rfl ?_
        refine sp_goto (pc := 46) (tgt := 4) dX7_hidden_46 (by decide) ?_
        exact sp_sub [1, 2, 0] rfl (hk4 _ _ _ hf)
      · rw [if_pos c10] at hf
        refine sp_iinc (pc := 40) (v := v1 + 1) (lv' := [(1, .int (v1 + 1)), (0, .ref v0), (2, .int v2)]) dX7_hidden_40 1 rfl rfl (by decide) rfl ?_
        refine sp_iinc (pc := 43) (v := v2 + 1) (lv' := [(2, .int (v2 + 1)), (1, .int (v1 + 1)), (0, .ref v0)]) dX7_hidden_43 2 rfl rfl (by decide) rfl ?_
        refine sp_goto (pc := 46) (tgt := 4) dX7_hidden_46 (by decide) ?_
        exact sp_sub [2, 1, 0] rfl (hk4 _ _ _ hf)

theorem w_X7_hidden_4 {l : Launch} {X : SCR} {Q : PST} {bc bs : Nat} {res : Int32} {h : HP} (hQ : ∀ sz', Q (.inl (some (.int res))) h sz') {v0 : Nat} : ∀ (n : Nat) {v1 : Int32} {v2 : Int32} {sz : Nat}, b_X7_hidden_4 h v0 n v1 v2 = some res → SP l X M_X7_hidden 4 [(0, .ref v0), (1, .int v1), (2, .int v2)] [] h sz bc bs Q := by
  intro n
  induction n with
  | zero =>
    intro v1 v2 sz hf
    rw [b_X7_hidden_4] at hf
    cases hf
  | succ n ih =>
    intro v1 v2 sz hf
    rw [b_X7_hidden_4] at hf
    exact wc_X7_hidden_4 hQ (fun v1 v2 sz hf => ih hf) hf

theorem w_X7_hidden_0 {l : Launch} {X : SCR} {Q : PST} {bc bs : Nat} {res : Int32} {h : HP} (hQ : ∀ sz', Q (.inl (some (.int res))) h sz') {v0 : Nat} {sz : Nat} (hf : b_X7_hidden_0 h v0  = some res) : SP l X M_X7_hidden 0 [(0, .ref v0)] [] h sz bc bs Q := by
  rw [b_X7_hidden_0] at hf
  refine sp_iconst (pc := 0) (v := 0) dX7_hidden_0 (by decide) ?_
  refine sp_istore_n (pc := 1) (lv' := [(1, .int 0), (0, .ref v0)]) dX7_hidden_1 (by decide) rfl ?_
  refine sp_iconst (pc := 2) (v := 0) dX7_hidden_2 (by decide) ?_
  refine sp_istore_n (pc := 3) (lv' := [(2, .int 0), (1, .int 0), (0, .ref v0)]) dX7_hidden_3 (by decide) rfl ?_
  exact sp_sub [2, 1, 0] rfl (w_X7_hidden_4 hQ FU hf)

theorem o_X7_hidden {h : HP} {v0 : Nat} {res : Int32} (hf : f_X7_hidden h v0 = some res) : ∃ fs, h v0 = some (.inr (7, fs)) := by
  obtain ⟨u, eu, -⟩ := ob hf
  exact kO_spec eu

theorem m_X7_hidden {l : Launch} {Q : PST} {h : HP} {v0 : Nat} {sz : Nat} {res : Int32} (hQ : ∀ sz', Q (.inl (some (.int res))) h sz') (hf : f_X7_hidden h v0 = some res) : MM l M_X7_hidden [.ref v0] h sz Q := by
  obtain ⟨u, eu, hf⟩ := ob hf
  exact MM_of wok_X7_hidden (by decide +kernel) (Nat.le_of_ble_eq_true rfl) ((w_X7_hidden_0 hQ hf))

theorem dX7_grave_0 : decode (mB M_X7_grave) 0 = .ok (.iload_n 1, 1) := by decide +kernel
theorem dX7_grave_1 : decode (mB M_X7_grave) 1 = .ok (.invokestatic 134, 3) := by decide +kernel
theorem dX7_grave_4 : decode (mB M_X7_grave) 4 = .ok (.ifCond .ne 13, 3) := by decide +kernel
theorem dX7_grave_7 : decode (mB M_X7_grave) 7 = .ok (.new 140, 3) := by decide +kernel
theorem dX7_grave_10 : decode (mB M_X7_grave) 10 = .ok (.dup, 1) := by decide +kernel
theorem dX7_grave_11 : decode (mB M_X7_grave) 11 = .ok (.ldc 192, 2) := by decide +kernel
theorem dX7_grave_13 : decode (mB M_X7_grave) 13 = .ok (.invokespecial 144, 3) := by decide +kernel
theorem dX7_grave_16 : decode (mB M_X7_grave) 16 = .ok (.athrow, 1) := by decide +kernel
theorem dX7_grave_17 : decode (mB M_X7_grave) 17 = .ok (.aload_n 0, 1) := by decide +kernel
theorem dX7_grave_18 : decode (mB M_X7_grave) 18 = .ok (.getfield 24, 3) := by decide +kernel
theorem dX7_grave_21 : decode (mB M_X7_grave) 21 = .ok (.invokevirtual 111, 3) := by decide +kernel
theorem dX7_grave_24 : decode (mB M_X7_grave) 24 = .ok (.iconst 1, 1) := by decide +kernel
theorem dX7_grave_25 : decode (mB M_X7_grave) 25 = .ok (.isub, 1) := by decide +kernel
theorem dX7_grave_26 : decode (mB M_X7_grave) 26 = .ok (.istore_n 2, 1) := by decide +kernel
theorem dX7_grave_27 : decode (mB M_X7_grave) 27 = .ok (.iload_n 2, 1) := by decide +kernel
theorem dX7_grave_28 : decode (mB M_X7_grave) 28 = .ok (.ifCond .lt 50, 3) := by decide +kernel
theorem dX7_grave_31 : decode (mB M_X7_grave) 31 = .ok (.aload_n 0, 1) := by decide +kernel
theorem dX7_grave_32 : decode (mB M_X7_grave) 32 = .ok (.getfield 24, 3) := by decide +kernel
theorem dX7_grave_35 : decode (mB M_X7_grave) 35 = .ok (.getfield 162, 3) := by decide +kernel
theorem dX7_grave_38 : decode (mB M_X7_grave) 38 = .ok (.iload_n 2, 1) := by decide +kernel
theorem dX7_grave_39 : decode (mB M_X7_grave) 39 = .ok (.invokevirtual 257, 3) := by decide +kernel
theorem dX7_grave_42 : decode (mB M_X7_grave) 42 = .ok (.ifCond .ne 30, 3) := by decide +kernel
theorem dX7_grave_45 : decode (mB M_X7_grave) 45 = .ok (.aload_n 0, 1) := by decide +kernel
theorem dX7_grave_46 : decode (mB M_X7_grave) 46 = .ok (.getfield 24, 3) := by decide +kernel
theorem dX7_grave_49 : decode (mB M_X7_grave) 49 = .ok (.getfield 162, 3) := by decide +kernel
theorem dX7_grave_52 : decode (mB M_X7_grave) 52 = .ok (.iload_n 2, 1) := by decide +kernel
theorem dX7_grave_53 : decode (mB M_X7_grave) 53 = .ok (.iload_n 1, 1) := by decide +kernel
theorem dX7_grave_54 : decode (mB M_X7_grave) 54 = .ok (.invokevirtual 263, 3) := by decide +kernel
theorem dX7_grave_57 : decode (mB M_X7_grave) 57 = .ok (.ifCond .eq 15, 3) := by decide +kernel
theorem dX7_grave_60 : decode (mB M_X7_grave) 60 = .ok (.aload_n 0, 1) := by decide +kernel
theorem dX7_grave_61 : decode (mB M_X7_grave) 61 = .ok (.getfield 24, 3) := by decide +kernel
theorem dX7_grave_64 : decode (mB M_X7_grave) 64 = .ok (.getfield 162, 3) := by decide +kernel
theorem dX7_grave_67 : decode (mB M_X7_grave) 67 = .ok (.iload_n 2, 1) := by decide +kernel
theorem dX7_grave_68 : decode (mB M_X7_grave) 68 = .ok (.invokevirtual 166, 3) := by decide +kernel
theorem dX7_grave_71 : decode (mB M_X7_grave) 71 = .ok (.ireturn, 1) := by decide +kernel
theorem dX7_grave_72 : decode (mB M_X7_grave) 72 = .ok (.iinc 2 (-1), 3) := by decide +kernel
theorem dX7_grave_75 : decode (mB M_X7_grave) 75 = .ok (.goto (-48), 3) := by decide +kernel
theorem dX7_grave_78 : decode (mB M_X7_grave) 78 = .ok (.iconst (-1), 1) := by decide +kernel
theorem dX7_grave_79 : decode (mB M_X7_grave) 79 = .ok (.ireturn, 1) := by decide +kernel
def c_X7_grave_27 (h : HP) (v0 : Nat) (v1 : Int32) (k27 : Int32 → Option (Int32 ⊕ String)) (v2 : Int32) : Option (Int32 ⊕ String) :=
  if v2 < 0 then some (.inl (-1)) else (gR 7 1 h v0).bind fun x2 => (gR 3 1 h x2).bind fun x3 => (f_X6_isEntry h x3 v2).bind fun y4 => if y4 = 0 then (gR 7 1 h v0).bind fun x6 => (gR 3 1 h x6).bind fun x7 => (f_X6_concerns h x7 v2 v1).bind fun y8 => if y8 = 0 then k27 (v2 + (-1)) else (gR 7 1 h v0).bind fun x10 => (gR 3 1 h x10).bind fun x11 => (f_X6_numberAt h x11 v2).bind fun y12 => some (.inl y12) else k27 (v2 + (-1))
def b_X7_grave_27 (h : HP) (v0 : Nat) (v1 : Int32) : Nat → Int32 → Option (Int32 ⊕ String)
  | 0, _ => none
  | n + 1, v2 => c_X7_grave_27 h v0 v1 (b_X7_grave_27 h v0 v1 n) v2
def b_X7_grave_0 (h : HP) (v0 : Nat) (v1 : Int32) : Option (Int32 ⊕ String) :=
  (f_X7_isKey h v1).bind fun y1 => if y1 = 0 then some (.inr "java/lang/IndexOutOfBoundsException") else (gR 7 1 h v0).bind fun x3 => (f_X3_size h x3).bind fun y4 => b_X7_grave_27 h v0 v1 FU (y4 - 1)
def f_X7_grave (h : HP) (v0 : Nat) (v1 : Int32) : Option (Int32 ⊕ String) := (kO 7 h v0).bind fun _ => b_X7_grave_0 h v0 v1
theorem wc_X7_grave_27 {l : Launch} {X : SCR} {Q : PST} {bc bs : Nat} {res : Int32 ⊕ String} {h : HP} (hQ : ∀ sz', Q (outT res) h sz') (hlt : l.stackTraces = false) (hX2 : X.2 = some []) (hbc : 1 ≤ bc) (hbs : 6 ≤ bs) {v0 : Nat} {v1 : Int32} {k27 : Int32 → Option (Int32 ⊕ String)} (hk27 : ∀ (v2 : Int32) (sz : Nat), k27 v2 = some res → SP l X M_X7_grave 27 [(0, .ref v0), (1, .int v1), (2, .int v2)] [] h sz bc bs Q) {v2 : Int32} {sz : Nat} (hf : c_X7_grave_27 h v0 v1 k27 v2 = some res) : SP l X M_X7_grave 27 [(0, .ref v0), (1, .int v1), (2, .int v2)] [] h sz bc bs Q := by
  rw [c_X7_grave_27] at hf
  refine sp_iload_n (pc := 27) dX7_grave_27 2 rfl ?_
  refine sp_if_lt (pc := 28) (tgt := 78) dX7_grave_28 (by decide) (fun c1 => ?_) (fun c1 => ?_)
  · rw [if_pos c1] at hf
    refine sp_iconst (pc := 78) (v := (-1)) dX7_grave_78 (by decide) ?_
    obtain rfl := Option.some.inj hf
    exact sp_ireturn (pc := 79) dX7_grave_79 rfl rfl (hQ _)
  · rw [if_neg c1] at hf
    refine sp_aload_n (pc := 31) dX7_grave_31 0 rfl ?_
    obtain ⟨x2, ex2, hf⟩ := ob hf
    refine sp_gR (pc := 32) fl_RX7_24 dX7_grave_32 ex2 ?_
    obtain ⟨x3, ex3, hf⟩ := ob hf
    refine sp_gR (pc := 35) fl_RX7_162 dX7_grave_35 ex3 ?_
    refine sp_iload_n (pc := 38) dX7_grave_38 2 rfl ?_
    obtain ⟨y4, ey4, hf⟩ := ob hf
    obtain ⟨fsy4, hoy4⟩ := o_X6_isEntry ey4
    refine sp_callVi (pc := 39) (z := M_X6_isEntry) (As := [.int v2]) (b := x3) (bc2 := bc) (bs2 := bs) (m_X6_isEntry (Q := _) (fun sz => ⟨y4, rfl, ?_⟩) ey4) rfl dX7_grave_39 hoy4 rfl rfl ck_X7_grave_257 (Nat.le_of_ble_eq_true rfl) rfl rfl rfl
    refine sp_if_ne (pc := 42) (tgt := 72) dX7_grave_42 (by decide) (fun c5 => ?_) (fun c5 => ?_)
    · rw [if_neg c5] at hf
      refine sp_iinc (pc := 72) (v := v2 + (-1)) (lv' := [(2, .int (v2 + (-1))), (0, .ref v0), (1, .int v1)]) dX7_grave_72 2 rfl rfl (by decide) rfl ?_
      refine sp_goto (pc := 75) (tgt := 27) dX7_grave_75 (by decide) ?_
      exact sp_sub [1, 2, 0] rfl (hk27 _ _ hf)
    · rw [if_pos c5] at hf
      refine sp_aload_n (pc := 45) dX7_grave_45 0 rfl ?_
      obtain ⟨x6, ex6, hf⟩ := ob hf
      refine sp_gR (pc := 46) fl_RX7_24 dX7_grave_46 ex6 ?_
      obtain ⟨x7, ex7, hf⟩ := ob hf
      refine sp_gR (pc := 49) fl_RX7_162 dX7_grave_49 ex7 ?_
      refine sp_iload_n (pc := 52) dX7_grave_52 2 rfl ?_
      refine sp_iload_n (pc := 53) dX7_grave_53 1 rfl ?_
      obtain ⟨y8, ey8, hf⟩ := ob hf
      obtain ⟨fsy8, hoy8⟩ := o_X6_concerns ey8
      refine sp_callVi (pc := 54) (z := M_X6_concerns) (As := [.int v2, .int v1]) (b := x7) (bc2 := bc) (bs2 := bs) (m_X6_concerns (Q := _) (fun sz => ⟨y8, rfl, ?_⟩) ey8) rfl dX7_grave_54 hoy8 rfl rfl ck_X7_grave_263 (Nat.le_of_ble_eq_true rfl) rfl rfl rfl
      refine sp_if_eq (pc := 57) (tgt := 72) dX7_grave_57 (by decide) (fun c9 => ?_) (fun c9 => ?_)
      · rw [if_pos c9] at hf
        refine sp_iinc (pc := 72) (v := v2 + (-1)) (lv' := [(2, .int (v2 + (-1))), (0, .ref v0), (1, .int v1)]) dX7_grave_72 2 rfl rfl (by decide) rfl ?_
        refine sp_goto (pc := 75) (tgt := 27) dX7_grave_75 (by decide) ?_
        exact sp_sub [1, 2, 0] rfl (hk27 _ _ hf)
      · rw [if_neg c9] at hf
        refine sp_aload_n (pc := 60) dX7_grave_60 0 rfl ?_
        obtain ⟨x10, ex10, hf⟩ := ob hf
        refine sp_gR (pc := 61) fl_RX7_24 dX7_grave_61 ex10 ?_
        obtain ⟨x11, ex11, hf⟩ := ob hf
        refine sp_gR (pc := 64) fl_RX7_162 dX7_grave_64 ex11 ?_
        refine sp_iload_n (pc := 67) dX7_grave_67 2 rfl ?_
        obtain ⟨y12, ey12, hf⟩ := ob hf
        obtain ⟨fsy12, hoy12⟩ := o_X6_numberAt ey12
        refine sp_callVi (pc := 68) (z := M_X6_numberAt) (As := [.int v2]) (b := x11) (bc2 := bc) (bs2 := bs) (m_X6_numberAt (Q := _) (fun sz => ⟨y12, rfl, ?_⟩) ey12) rfl dX7_grave_68 hoy12 rfl rfl ck_X7_grave_166 (Nat.le_of_ble_eq_true rfl) rfl rfl rfl
        obtain rfl := Option.some.inj hf
        exact sp_ireturn (pc := 71) dX7_grave_71 rfl rfl (hQ _)

theorem w_X7_grave_27 {l : Launch} {X : SCR} {Q : PST} {bc bs : Nat} {res : Int32 ⊕ String} {h : HP} (hQ : ∀ sz', Q (outT res) h sz') (hlt : l.stackTraces = false) (hX2 : X.2 = some []) (hbc : 1 ≤ bc) (hbs : 6 ≤ bs) {v0 : Nat} {v1 : Int32} : ∀ (n : Nat) {v2 : Int32} {sz : Nat}, b_X7_grave_27 h v0 v1 n v2 = some res → SP l X M_X7_grave 27 [(0, .ref v0), (1, .int v1), (2, .int v2)] [] h sz bc bs Q := by
  intro n
  induction n with
  | zero =>
    intro v2 sz hf
    rw [b_X7_grave_27] at hf
    cases hf
  | succ n ih =>
    intro v2 sz hf
    rw [b_X7_grave_27] at hf
    exact wc_X7_grave_27 hQ hlt hX2 hbc hbs (fun v2 sz hf => ih hf) hf

theorem w_X7_grave_0 {l : Launch} {X : SCR} {Q : PST} {bc bs : Nat} {res : Int32 ⊕ String} {h : HP} (hQ : ∀ sz', Q (outT res) h sz') (hlt : l.stackTraces = false) (hX2 : X.2 = some []) (hbc : 1 ≤ bc) (hbs : 6 ≤ bs) {v0 : Nat} {v1 : Int32} {sz : Nat} (hf : b_X7_grave_0 h v0 v1  = some res) : SP l X M_X7_grave 0 [(0, .ref v0), (1, .int v1)] [] h sz bc bs Q := by
  rw [b_X7_grave_0] at hf
  refine sp_iload_n (pc := 0) dX7_grave_0 1 rfl ?_
  obtain ⟨y1, ey1, hf⟩ := ob hf
  refine sp_callSi (pc := 1) (z := M_X7_isKey) (As := [.int v1]) (bc2 := bc) (bs2 := bs) (m_X7_isKey (Q := _) (fun sz => ⟨y1, rfl, ?_⟩) ey1) rfl dX7_grave_1 rfl ck_X7_grave_134 (Nat.le_of_ble_eq_true rfl) rfl rfl rfl
  refine sp_if_ne (pc := 4) (tgt := 17) dX7_grave_4 (by decide) (fun c2 => ?_) (fun c2 => ?_)
  · rw [if_neg c2] at hf
    refine sp_aload_n (pc := 17) dX7_grave_17 0 rfl ?_
    obtain ⟨x3, ex3, hf⟩ := ob hf
    refine sp_gR (pc := 18) fl_RX7_24 dX7_grave_18 ex3 ?_
    obtain ⟨y4, ey4, hf⟩ := ob hf
    obtain ⟨fsy4, hoy4⟩ := o_X3_size ey4
    refine sp_callVi (pc := 21) (z := M_X3_size) (As := []) (b := x3) (bc2 := bc) (bs2 := bs) (m_X3_size (Q := _) (fun sz => ⟨y4, rfl, ?_⟩) ey4) rfl dX7_grave_21 hoy4 rfl rfl ck_X7_grave_111 (Nat.le_of_ble_eq_true rfl) rfl rfl rfl
    refine sp_iconst (pc := 24) (v := 1) dX7_grave_24 (by decide) ?_
    refine sp_isub (pc := 25) dX7_grave_25 ?_
    refine sp_istore_n (pc := 26) (lv' := [(2, .int (y4 - 1)), (0, .ref v0), (1, .int v1)]) dX7_grave_26 (by decide) rfl ?_
    exact sp_sub [1, 2, 0] rfl (w_X7_grave_27 hQ hlt hX2 hbc hbs FU hf)
  · rw [if_pos c2] at hf
    obtain rfl := Option.some.inj hf
    exact sp_throwS (pc := 7) tr_RX7_140_192_144 hlt hX2 dX7_grave_7 dX7_grave_10 dX7_grave_11 dX7_grave_13 dX7_grave_16 (by decide) (Nat.le_of_ble_eq_true rfl) hbc hbs hQ

theorem o_X7_grave {h : HP} {v0 : Nat} {v1 : Int32} {res : Int32 ⊕ String} (hf : f_X7_grave h v0 v1 = some res) : ∃ fs, h v0 = some (.inr (7, fs)) := by
  obtain ⟨u, eu, -⟩ := ob hf
  exact kO_spec eu

theorem m_X7_grave {l : Launch} {Q : PST} {h : HP} {v0 : Nat} {v1 : Int32} {sz : Nat} {res : Int32 ⊕ String} (hQ : ∀ sz', Q (outT res) h sz') (hlt : l.stackTraces = false) (hf : f_X7_grave h v0 v1 = some res) : MM l M_X7_grave [.ref v0, .int v1] h sz Q := by
  obtain ⟨u, eu, hf⟩ := ob hf
  exact MM_of wok_X7_grave (by decide +kernel) (Nat.le_of_ble_eq_true rfl) ((w_X7_grave_0 hQ hlt rfl (by decide) (by decide) hf))

theorem dX7_saves_0 : decode (mB M_X7_saves) 0 = .ok (.aload_n 0, 1) := by decide +kernel
theorem dX7_saves_1 : decode (mB M_X7_saves) 1 = .ok (.getfield 24, 3) := by decide +kernel
theorem dX7_saves_4 : decode (mB M_X7_saves) 4 = .ok (.iload_n 1, 1) := by decide +kernel
theorem dX7_saves_5 : decode (mB M_X7_saves) 5 = .ok (.invokevirtual 234, 3) := by decide +kernel
theorem dX7_saves_8 : decode (mB M_X7_saves) 8 = .ok (.ifCond .ne 13, 3) := by decide +kernel
theorem dX7_saves_11 : decode (mB M_X7_saves) 11 = .ok (.new 140, 3) := by decide +kernel
theorem dX7_saves_14 : decode (mB M_X7_saves) 14 = .ok (.dup, 1) := by decide +kernel
theorem dX7_saves_15 : decode (mB M_X7_saves) 15 = .ok (.ldc 154, 2) := by decide +kernel
theorem dX7_saves_17 : decode (mB M_X7_saves) 17 = .ok (.invokespecial 144, 3) := by decide +kernel
theorem dX7_saves_20 : decode (mB M_X7_saves) 20 = .ok (.athrow, 1) := by decide +kernel
theorem dX7_saves_21 : decode (mB M_X7_saves) 21 = .ok (.aload_n 0, 1) := by decide +kernel
theorem dX7_saves_22 : decode (mB M_X7_saves) 22 = .ok (.getfield 24, 3) := by decide +kernel
theorem dX7_saves_25 : decode (mB M_X7_saves) 25 = .ok (.iload_n 1, 1) := by decide +kernel
theorem dX7_saves_26 : decode (mB M_X7_saves) 26 = .ok (.invokevirtual 237, 3) := by decide +kernel
theorem dX7_saves_29 : decode (mB M_X7_saves) 29 = .ok (.ifCond .ne 13, 3) := by decide +kernel
theorem dX7_saves_32 : decode (mB M_X7_saves) 32 = .ok (.new 66, 3) := by decide +kernel
theorem dX7_saves_35 : decode (mB M_X7_saves) 35 = .ok (.dup, 1) := by decide +kernel
theorem dX7_saves_36 : decode (mB M_X7_saves) 36 = .ok (.ldc 240, 2) := by decide +kernel
theorem dX7_saves_38 : decode (mB M_X7_saves) 38 = .ok (.invokespecial 70, 3) := by decide +kernel
theorem dX7_saves_41 : decode (mB M_X7_saves) 41 = .ok (.athrow, 1) := by decide +kernel
theorem dX7_saves_42 : decode (mB M_X7_saves) 42 = .ok (.aload_n 0, 1) := by decide +kernel
theorem dX7_saves_43 : decode (mB M_X7_saves) 43 = .ok (.getfield 24, 3) := by decide +kernel
theorem dX7_saves_46 : decode (mB M_X7_saves) 46 = .ok (.iload_n 1, 1) := by decide +kernel
theorem dX7_saves_47 : decode (mB M_X7_saves) 47 = .ok (.invokevirtual 267, 3) := by decide +kernel
theorem dX7_saves_50 : decode (mB M_X7_saves) 50 = .ok (.ireturn, 1) := by decide +kernel
def b_X7_saves_0 (v0 : Nat) (v1 : Int32) (h : HP) : Option ((Int32 ⊕ String) × HP) :=
  (gR 7 1 h v0).bind fun x1 => (f_X3_isRun h x1 v1).bind fun y2 => if y2 = 0 then some (.inr "java/lang/IndexOutOfBoundsException", h) else (gR 7 1 h v0).bind fun x4 => (f_X3_canMerge h x4 v1).bind fun y5 => if y5.1 = 0 then some (.inr "java/lang/IllegalStateException", y5.2) else (gR 7 1 y5.2 v0).bind fun x7 => (f_X3_savedBy y5.2 x7 v1).bind fun y8 => some (.inl y8.1, y8.2)
def f_X7_saves (h : HP) (v0 : Nat) (v1 : Int32) : Option ((Int32 ⊕ String) × HP) := (kO 7 h v0).bind fun _ => b_X7_saves_0 v0 v1 h
theorem w_X7_saves_0 {l : Launch} {X : SCR} {Q : PST} {bc bs : Nat} {res : (Int32 ⊕ String) × HP} {h : HP} (hQ : ∀ sz', Q (outT res.1) res.2 sz') (hlt : l.stackTraces = false) (hX2 : X.2 = some []) (hbc : 1 ≤ bc) (hbs : 6 ≤ bs) {v0 : Nat} {v1 : Int32} {sz : Nat} (hf : b_X7_saves_0 v0 v1 h  = some res) : SP l X M_X7_saves 0 [(0, .ref v0), (1, .int v1)] [] h sz bc bs Q := by
  rw [b_X7_saves_0] at hf
  refine sp_aload_n (pc := 0) dX7_saves_0 0 rfl ?_
  obtain ⟨x1, ex1, hf⟩ := ob hf
  refine sp_gR (pc := 1) fl_RX7_24 dX7_saves_1 ex1 ?_
  refine sp_iload_n (pc := 4) dX7_saves_4 1 rfl ?_
  obtain ⟨y2, ey2, hf⟩ := ob hf
  obtain ⟨fsy2, hoy2⟩ := o_X3_isRun ey2
  refine sp_callVi (pc := 5) (z := M_X3_isRun) (As := [.int v1]) (b := x1) (bc2 := bc) (bs2 := bs) (m_X3_isRun (Q := _) (fun sz => ⟨y2, rfl, ?_⟩) ey2) rfl dX7_saves_5 hoy2 rfl rfl ck_X7_saves_234 (Nat.le_of_ble_eq_true rfl) rfl rfl rfl
  refine sp_if_ne (pc := 8) (tgt := 21) dX7_saves_8 (by decide) (fun c3 => ?_) (fun c3 => ?_)
  · rw [if_neg c3] at hf
    refine sp_aload_n (pc := 21) dX7_saves_21 0 rfl ?_
    obtain ⟨x4, ex4, hf⟩ := ob hf
    refine sp_gR (pc := 22) fl_RX7_24 dX7_saves_22 ex4 ?_
    refine sp_iload_n (pc := 25) dX7_saves_25 1 rfl ?_
    obtain ⟨y5, ey5, hf⟩ := ob hf
    obtain ⟨fsy5, hoy5⟩ := o_X3_canMerge ey5
    refine sp_callVi (pc := 26) (z := M_X3_canMerge) (As := [.int v1]) (b := x4) (bc2 := bc) (bs2 := bs) (m_X3_canMerge (Q := _) (fun sz => ⟨y5.1, rfl, ?_⟩) ey5) rfl dX7_saves_26 hoy5 rfl rfl ck_X7_saves_237 (Nat.le_of_ble_eq_true rfl) rfl rfl rfl
    refine sp_if_ne (pc := 29) (tgt := 42) dX7_saves_29 (by decide) (fun c6 => ?_) (fun c6 => ?_)
    · rw [if_neg c6] at hf
      refine sp_aload_n (pc := 42) dX7_saves_42 0 rfl ?_
      obtain ⟨x7, ex7, hf⟩ := ob hf
      refine sp_gR (pc := 43) fl_RX7_24 dX7_saves_43 ex7 ?_
      refine sp_iload_n (pc := 46) dX7_saves_46 1 rfl ?_
      obtain ⟨y8, ey8, hf⟩ := ob hf
      obtain ⟨fsy8, hoy8⟩ := o_X3_savedBy ey8
      refine sp_callVi (pc := 47) (z := M_X3_savedBy) (As := [.int v1]) (b := x7) (bc2 := bc) (bs2 := bs) (m_X3_savedBy (Q := _) (fun sz => ⟨y8.1, rfl, ?_⟩) ey8) rfl dX7_saves_47 hoy8 rfl rfl ck_X7_saves_267 (Nat.le_of_ble_eq_true rfl) rfl rfl rfl
      obtain rfl := Option.some.inj hf
      exact sp_ireturn (pc := 50) dX7_saves_50 rfl rfl (hQ _)
    · rw [if_pos c6] at hf
      obtain rfl := Option.some.inj hf
      exact sp_throwS (pc := 32) tr_RX7_66_240_70 hlt hX2 dX7_saves_32 dX7_saves_35 dX7_saves_36 dX7_saves_38 dX7_saves_41 (by decide) (Nat.le_of_ble_eq_true rfl) hbc hbs hQ
  · rw [if_pos c3] at hf
    obtain rfl := Option.some.inj hf
    exact sp_throwS (pc := 11) tr_RX7_140_154_144 hlt hX2 dX7_saves_11 dX7_saves_14 dX7_saves_15 dX7_saves_17 dX7_saves_20 (by decide) (Nat.le_of_ble_eq_true rfl) hbc hbs hQ

theorem o_X7_saves {h : HP} {v0 : Nat} {v1 : Int32} {res : (Int32 ⊕ String) × HP} (hf : f_X7_saves h v0 v1 = some res) : ∃ fs, h v0 = some (.inr (7, fs)) := by
  obtain ⟨u, eu, -⟩ := ob hf
  exact kO_spec eu

theorem m_X7_saves {l : Launch} {Q : PST} {h : HP} {v0 : Nat} {v1 : Int32} {sz : Nat} {res : (Int32 ⊕ String) × HP} (hQ : ∀ sz', Q (outT res.1) res.2 sz') (hlt : l.stackTraces = false) (hf : f_X7_saves h v0 v1 = some res) : MM l M_X7_saves [.ref v0, .int v1] h sz Q := by
  obtain ⟨u, eu, hf⟩ := ob hf
  exact MM_of wok_X7_saves (by decide +kernel) (Nat.le_of_ble_eq_true rfl) ((w_X7_saves_0 hQ hlt rfl (by decide) (by decide) hf))

theorem dX7_best_0 : decode (mB M_X7_best) 0 = .ok (.iconst (-1), 1) := by decide +kernel
theorem dX7_best_1 : decode (mB M_X7_best) 1 = .ok (.istore_n 1, 1) := by decide +kernel
theorem dX7_best_2 : decode (mB M_X7_best) 2 = .ok (.iconst 0, 1) := by decide +kernel
theorem dX7_best_3 : decode (mB M_X7_best) 3 = .ok (.istore_n 2, 1) := by decide +kernel
theorem dX7_best_4 : decode (mB M_X7_best) 4 = .ok (.iconst 0, 1) := by decide +kernel
theorem dX7_best_5 : decode (mB M_X7_best) 5 = .ok (.istore_n 3, 1) := by decide +kernel
theorem dX7_best_6 : decode (mB M_X7_best) 6 = .ok (.iload_n 3, 1) := by decide +kernel
theorem dX7_best_7 : decode (mB M_X7_best) 7 = .ok (.aload_n 0, 1) := by decide +kernel
theorem dX7_best_8 : decode (mB M_X7_best) 8 = .ok (.getfield 24, 3) := by decide +kernel
theorem dX7_best_11 : decode (mB M_X7_best) 11 = .ok (.invokevirtual 105, 3) := by decide +kernel
theorem dX7_best_14 : decode (mB M_X7_best) 14 = .ok (.if_icmp .ge 48, 3) := by decide +kernel
theorem dX7_best_17 : decode (mB M_X7_best) 17 = .ok (.aload_n 0, 1) := by decide +kernel
theorem dX7_best_18 : decode (mB M_X7_best) 18 = .ok (.getfield 24, 3) := by decide +kernel
theorem dX7_best_21 : decode (mB M_X7_best) 21 = .ok (.iload_n 3, 1) := by decide +kernel
theorem dX7_best_22 : decode (mB M_X7_best) 22 = .ok (.invokevirtual 237, 3) := by decide +kernel
theorem dX7_best_25 : decode (mB M_X7_best) 25 = .ok (.ifCond .eq 31, 3) := by decide +kernel
theorem dX7_best_28 : decode (mB M_X7_best) 28 = .ok (.iload_n 1, 1) := by decide +kernel
theorem dX7_best_29 : decode (mB M_X7_best) 29 = .ok (.iconst (-1), 1) := by decide +kernel
theorem dX7_best_30 : decode (mB M_X7_best) 30 = .ok (.if_icmp .eq 15, 3) := by decide +kernel
theorem dX7_best_33 : decode (mB M_X7_best) 33 = .ok (.aload_n 0, 1) := by decide +kernel
theorem dX7_best_34 : decode (mB M_X7_best) 34 = .ok (.getfield 24, 3) := by decide +kernel
theorem dX7_best_37 : decode (mB M_X7_best) 37 = .ok (.iload_n 3, 1) := by decide +kernel
theorem dX7_best_38 : decode (mB M_X7_best) 38 = .ok (.invokevirtual 267, 3) := by decide +kernel
theorem dX7_best_41 : decode (mB M_X7_best) 41 = .ok (.iload_n 2, 1) := by decide +kernel
theorem dX7_best_42 : decode (mB M_X7_best) 42 = .ok (.if_icmp .le 14, 3) := by decide +kernel
theorem dX7_best_45 : decode (mB M_X7_best) 45 = .ok (.iload_n 3, 1) := by decide +kernel
theorem dX7_best_46 : decode (mB M_X7_best) 46 = .ok (.istore_n 1, 1) := by decide +kernel
theorem dX7_best_47 : decode (mB M_X7_best) 47 = .ok (.aload_n 0, 1) := by decide +kernel
theorem dX7_best_48 : decode (mB M_X7_best) 48 = .ok (.getfield 24, 3) := by decide +kernel
theorem dX7_best_51 : decode (mB M_X7_best) 51 = .ok (.iload_n 3, 1) := by decide +kernel
theorem dX7_best_52 : decode (mB M_X7_best) 52 = .ok (.invokevirtual 267, 3) := by decide +kernel
theorem dX7_best_55 : decode (mB M_X7_best) 55 = .ok (.istore_n 2, 1) := by decide +kernel
theorem dX7_best_56 : decode (mB M_X7_best) 56 = .ok (.iinc 3 1, 3) := by decide +kernel
theorem dX7_best_59 : decode (mB M_X7_best) 59 = .ok (.goto (-53), 3) := by decide +kernel
theorem dX7_best_62 : decode (mB M_X7_best) 62 = .ok (.iload_n 1, 1) := by decide +kernel
theorem dX7_best_63 : decode (mB M_X7_best) 63 = .ok (.ireturn, 1) := by decide +kernel
def b_X7_best_45 (v0 : Nat) (k6 : HP → Int32 → Int32 → Int32 → Option (Int32 × HP)) (h : HP) (v3 : Int32) : Option (Int32 × HP) :=
  (gR 7 1 h v0).bind fun x1 => (f_X3_savedBy h x1 v3).bind fun y2 => k6 y2.2 v3 y2.1 (v3 + 1)
def c_X7_best_6 (v0 : Nat) (k6 : HP → Int32 → Int32 → Int32 → Option (Int32 × HP)) (h : HP) (v1 : Int32) (v2 : Int32) (v3 : Int32) : Option (Int32 × HP) :=
  (gR 7 1 h v0).bind fun x1 => (f_X3_runs h x1).bind fun y2 => if y2 ≤ v3 then some (v1, h) else (gR 7 1 h v0).bind fun x4 => (f_X3_canMerge h x4 v3).bind fun y5 => if y5.1 = 0 then k6 y5.2 v1 v2 (v3 + 1) else if v1 = (-1) then b_X7_best_45 v0 k6 y5.2 v3 else (gR 7 1 y5.2 v0).bind fun x8 => (f_X3_savedBy y5.2 x8 v3).bind fun y9 => if y9.1 ≤ v2 then k6 y9.2 v1 v2 (v3 + 1) else b_X7_best_45 v0 k6 y9.2 v3
def b_X7_best_6 (v0 : Nat) : Nat → HP → Int32 → Int32 → Int32 → Option (Int32 × HP)
  | 0, _, _, _, _ => none
  | n + 1, h, v1, v2, v3 => c_X7_best_6 v0 (b_X7_best_6 v0 n) h v1 v2 v3
def b_X7_best_0 (v0 : Nat) (h : HP) : Option (Int32 × HP) :=
  b_X7_best_6 v0 FU h ((-1)) 0 0
def f_X7_best (h : HP) (v0 : Nat) : Option (Int32 × HP) := (kO 7 h v0).bind fun _ => b_X7_best_0 v0 h
theorem w_X7_best_45 {l : Launch} {X : SCR} {Q : PST} {bc bs : Nat} {res : Int32 × HP} {h : HP} (hQ : ∀ sz', Q (.inl (some (.int res.1))) res.2 sz') {v0 : Nat} {k6 : HP → Int32 → Int32 → Int32 → Option (Int32 × HP)} (hk6 : ∀ (h : HP) (v1 : Int32) (v2 : Int32) (v3 : Int32) (sz : Nat), k6 h v1 v2 v3 = some res → SP l X M_X7_best 6 [(0, .ref v0), (1, .int v1), (2, .int v2), (3, .int v3)] [] h sz bc bs Q) {v3 : Int32} {sz : Nat} (hf : b_X7_best_45 v0 k6 h v3 = some res) : SP l X M_X7_best 45 [(0, .ref v0), (3, .int v3)] [] h sz bc bs Q := by
  rw [b_X7_best_45] at hf
  refine sp_iload_n (pc := 45) dX7_best_45 1 rfl ?_
  refine sp_istore_n (pc := 46) (lv' := [(1, .int v3), (0, .ref v0), (3, .int v3)]) dX7_best_46 (by decide) rfl ?_
  refine sp_aload_n (pc := 47) dX7_best_47 1 rfl ?_
  obtain ⟨x1, ex1, hf⟩ := ob hf
  refine sp_gR (pc := 48) fl_RX7_24 dX7_best_48 ex1 ?_
  refine sp_iload_n (pc := 51) dX7_best_51 2 rfl ?_
  obtain ⟨y2, ey2, hf⟩ := ob hf
  obtain ⟨fsy2, hoy2⟩ := o_X3_savedBy ey2
  refine sp_callVi (pc := 52) (z := M_X3_savedBy) (As := [.int v3]) (b := x1) (bc2 := bc) (bs2 := bs) (m_X3_savedBy (Q := _) (fun sz => ⟨y2.1, rfl, ?_⟩) ey2) rfl dX7_best_52 hoy2 rfl rfl ck_X7_best_267 (Nat.le_of_ble_eq_true rfl) rfl rfl rfl
  refine sp_istore_n (pc := 55) (lv' := [(2, .int y2.1), (1, .int v3), (0, .ref v0), (3, .int v3)]) dX7_best_55 (by decide) rfl ?_
  refine sp_iinc (pc := 56) (v := v3 + 1) (lv' := [(3, .int (v3 + 1)), (2, .int y2.1), (1, .int v3), (0, .ref v0)]) dX7_best_56 3 rfl rfl (by decide) rfl ?_
  refine sp_goto (pc := 59) (tgt := 6) dX7_best_59 (by decide) ?_
  exact sp_sub [3, 2, 1, 0] rfl (hk6 _ _ _ _ _ hf)

theorem wc_X7_best_6 {l : Launch} {X : SCR} {Q : PST} {bc bs : Nat} {res : Int32 × HP} (hQ : ∀ sz', Q (.inl (some (.int res.1))) res.2 sz') {v0 : Nat} {k6 : HP → Int32 → Int32 → Int32 → Option (Int32 × HP)} (hk6 : ∀ (h : HP) (v1 : Int32) (v2 : Int32) (v3 : Int32) (sz : Nat), k6 h v1 v2 v3 = some res → SP l X M_X7_best 6 [(0, .ref v0), (1, .int v1), (2, .int v2), (3, .int v3)] [] h sz bc bs Q) {h : HP} {v1 : Int32} {v2 : Int32} {v3 : Int32} {sz : Nat} (hf : c_X7_best_6 v0 k6 h v1 v2 v3 = some res) : SP l X M_X7_best 6 [(0, .ref v0), (1, .int v1), (2, .int v2), (3, .int v3)] [] h sz bc bs Q := by
  rw [c_X7_best_6] at hf
  refine sp_iload_n (pc := 6) dX7_best_6 3 rfl ?_
  refine sp_aload_n (pc := 7) dX7_best_7 0 rfl ?_
  obtain ⟨x1, ex1, hf⟩ := ob hf
  refine sp_gR (pc := 8) fl_RX7_24 dX7_best_8 ex1 ?_
  obtain ⟨y2, ey2, hf⟩ := ob hf
  obtain ⟨fsy2, hoy2⟩ := o_X3_runs ey2
  refine sp_callVi (pc := 11) (z := M_X3_runs) (As := []) (b := x1) (bc2 := bc) (bs2 := bs) (m_X3_runs (Q := _) (fun sz => ⟨y2, rfl, ?_⟩) ey2) rfl dX7_best_11 hoy2 rfl rfl ck_X7_best_105 (Nat.le_of_ble_eq_true rfl) rfl rfl rfl
  refine sp_icmp_ge (pc := 14) (tgt := 62) dX7_best_14 (by decide) (fun c3 => ?_) (fun c3 => ?_)
  · rw [if_pos c3] at hf
    refine sp_iload_n (pc := 62) dX7_best_62 1 rfl ?_
    obtain rfl := Option.some.inj hf
    exact sp_ireturn (pc := 63) dX7_best_63 rfl rfl (hQ _)
  · rw [if_neg c3] at hf
    refine sp_aload_n (pc := 17) dX7_best_17 0 rfl ?_
    obtain ⟨x4, ex4, hf⟩ := ob hf
    refine sp_gR (pc := 18) fl_RX7_24 dX7_best_18 ex4 ?_
    refine sp_iload_n (pc := 21) dX7_best_21 3 rfl ?_
    obtain ⟨y5, ey5, hf⟩ := ob hf
    obtain ⟨fsy5, hoy5⟩ := o_X3_canMerge ey5
    refine sp_callVi (pc := 22) (z := M_X3_canMerge) (As := [.int v3]) (b := x4) (bc2 := bc) (bs2 := bs) (m_X3_canMerge (Q := _) (fun sz => ⟨y5.1, rfl, ?_⟩) ey5) rfl dX7_best_22 hoy5 rfl rfl ck_X7_best_237 (Nat.le_of_ble_eq_true rfl) rfl rfl rfl
    refine sp_if_eq (pc := 25) (tgt := 56) dX7_best_25 (by decide) (fun c6 => ?_) (fun c6 => ?_)
    · rw [if_pos c6] at hf
      refine sp_iinc (pc := 56) (v := v3 + 1) (lv' := [(3, .int (v3 + 1)), (0, .ref v0), (1, .int v1), (2, .int v2)]) dX7_best_56 3 rfl rfl (by decide) rfl ?_
      refine sp_goto (pc := 59) (tgt := 6) dX7_best_59 (by decide) ?_
      exact sp_sub [1, 2, 3, 0] rfl (hk6 _ _ _ _ _ hf)
    · rw [if_neg c6] at hf
      refine sp_iload_n (pc := 28) dX7_best_28 1 rfl ?_
      refine sp_iconst (pc := 29) (v := (-1)) dX7_best_29 (by decide) ?_
      refine sp_icmp_eq (pc := 30) (tgt := 45) dX7_best_30 (by decide) (fun c7 => ?_) (fun c7 => ?_)
      · rw [if_pos c7] at hf
        exact sp_sub [0, 3] rfl (w_X7_best_45 hQ hk6 hf)
      · rw [if_neg c7] at hf
        refine sp_aload_n (pc := 33) dX7_best_33 0 rfl ?_
        obtain ⟨x8, ex8, hf⟩ := ob hf
        refine sp_gR (pc := 34) fl_RX7_24 dX7_best_34 ex8 ?_
        refine sp_iload_n (pc := 37) dX7_best_37 3 rfl ?_
        obtain ⟨y9, ey9, hf⟩ := ob hf
        obtain ⟨fsy9, hoy9⟩ := o_X3_savedBy ey9
        refine sp_callVi (pc := 38) (z := M_X3_savedBy) (As := [.int v3]) (b := x8) (bc2 := bc) (bs2 := bs) (m_X3_savedBy (Q := _) (fun sz => ⟨y9.1, rfl, ?_⟩) ey9) rfl dX7_best_38 hoy9 rfl rfl ck_X7_best_267 (Nat.le_of_ble_eq_true rfl) rfl rfl rfl
        refine sp_iload_n (pc := 41) dX7_best_41 2 rfl ?_
        refine sp_icmp_le (pc := 42) (tgt := 56) dX7_best_42 (by decide) (fun c10 => ?_) (fun c10 => ?_)
        · rw [if_pos c10] at hf
          refine sp_iinc (pc := 56) (v := v3 + 1) (lv' := [(3, .int (v3 + 1)), (0, .ref v0), (1, .int v1), (2, .int v2)]) dX7_best_56 3 rfl rfl (by decide) rfl ?_
          refine sp_goto (pc := 59) (tgt := 6) dX7_best_59 (by decide) ?_
          exact sp_sub [1, 2, 3, 0] rfl (hk6 _ _ _ _ _ hf)
        · rw [if_neg c10] at hf
          exact sp_sub [0, 3] rfl (w_X7_best_45 hQ hk6 hf)

theorem w_X7_best_6 {l : Launch} {X : SCR} {Q : PST} {bc bs : Nat} {res : Int32 × HP} (hQ : ∀ sz', Q (.inl (some (.int res.1))) res.2 sz') {v0 : Nat} : ∀ (n : Nat) {h : HP} {v1 : Int32} {v2 : Int32} {v3 : Int32} {sz : Nat}, b_X7_best_6 v0 n h v1 v2 v3 = some res → SP l X M_X7_best 6 [(0, .ref v0), (1, .int v1), (2, .int v2), (3, .int v3)] [] h sz bc bs Q := by
  intro n
  induction n with
  | zero =>
    intro h v1 v2 v3 sz hf
    rw [b_X7_best_6] at hf
    cases hf
  | succ n ih =>
    intro h v1 v2 v3 sz hf
    rw [b_X7_best_6] at hf
    exact wc_X7_best_6 hQ (fun h v1 v2 v3 sz hf => ih hf) hf

theorem w_X7_best_0 {l : Launch} {X : SCR} {Q : PST} {bc bs : Nat} {res : Int32 × HP} {h : HP} (hQ : ∀ sz', Q (.inl (some (.int res.1))) res.2 sz') {v0 : Nat} {sz : Nat} (hf : b_X7_best_0 v0 h  = some res) : SP l X M_X7_best 0 [(0, .ref v0)] [] h sz bc bs Q := by
  rw [b_X7_best_0] at hf
  refine sp_iconst (pc := 0) (v := (-1)) dX7_best_0 (by decide) ?_
  refine sp_istore_n (pc := 1) (lv' := [(1, .int (-1)), (0, .ref v0)]) dX7_best_1 (by decide) rfl ?_
  refine sp_iconst (pc := 2) (v := 0) dX7_best_2 (by decide) ?_
  refine sp_istore_n (pc := 3) (lv' := [(2, .int 0), (1, .int (-1)), (0, .ref v0)]) dX7_best_3 (by decide) rfl ?_
  refine sp_iconst (pc := 4) (v := 0) dX7_best_4 (by decide) ?_
  refine sp_istore_n (pc := 5) (lv' := [(3, .int 0), (2, .int 0), (1, .int (-1)), (0, .ref v0)]) dX7_best_5 (by decide) rfl ?_
  exact sp_sub [3, 2, 1, 0] rfl (w_X7_best_6 hQ FU hf)

theorem o_X7_best {h : HP} {v0 : Nat} {res : Int32 × HP} (hf : f_X7_best h v0 = some res) : ∃ fs, h v0 = some (.inr (7, fs)) := by
  obtain ⟨u, eu, -⟩ := ob hf
  exact kO_spec eu

theorem m_X7_best {l : Launch} {Q : PST} {h : HP} {v0 : Nat} {sz : Nat} {res : Int32 × HP} (hQ : ∀ sz', Q (.inl (some (.int res.1))) res.2 sz') (hf : f_X7_best h v0 = some res) : MM l M_X7_best [.ref v0] h sz Q := by
  obtain ⟨u, eu, hf⟩ := ob hf
  exact MM_of wok_X7_best (by decide +kernel) (Nat.le_of_ble_eq_true rfl) ((w_X7_best_0 hQ hf))

theorem dX7_fewest_0 : decode (mB M_X7_fewest) 0 = .ok (.aload_n 0, 1) := by decide +kernel
theorem dX7_fewest_1 : decode (mB M_X7_fewest) 1 = .ok (.getfield 28, 3) := by decide +kernel
theorem dX7_fewest_4 : decode (mB M_X7_fewest) 4 = .ok (.aload_n 0, 1) := by decide +kernel
theorem dX7_fewest_5 : decode (mB M_X7_fewest) 5 = .ok (.getfield 24, 3) := by decide +kernel
theorem dX7_fewest_8 : decode (mB M_X7_fewest) 8 = .ok (.invokevirtual 270, 3) := by decide +kernel
theorem dX7_fewest_11 : decode (mB M_X7_fewest) 11 = .ok (.aload_n 0, 1) := by decide +kernel
theorem dX7_fewest_12 : decode (mB M_X7_fewest) 12 = .ok (.getfield 28, 3) := by decide +kernel
theorem dX7_fewest_15 : decode (mB M_X7_fewest) 15 = .ok (.invokevirtual 273, 3) := by decide +kernel
theorem dX7_fewest_18 : decode (mB M_X7_fewest) 18 = .ok (.aload_n 0, 1) := by decide +kernel
theorem dX7_fewest_19 : decode (mB M_X7_fewest) 19 = .ok (.getfield 28, 3) := by decide +kernel
theorem dX7_fewest_22 : decode (mB M_X7_fewest) 22 = .ok (.iconst (-1), 1) := by decide +kernel
theorem dX7_fewest_23 : decode (mB M_X7_fewest) 23 = .ok (.invokevirtual 101, 3) := by decide +kernel
theorem dX7_fewest_26 : decode (mB M_X7_fewest) 26 = .ok (.ifCond .le 11, 3) := by decide +kernel
theorem dX7_fewest_29 : decode (mB M_X7_fewest) 29 = .ok (.aload_n 0, 1) := by decide +kernel
theorem dX7_fewest_30 : decode (mB M_X7_fewest) 30 = .ok (.getfield 28, 3) := by decide +kernel
theorem dX7_fewest_33 : decode (mB M_X7_fewest) 33 = .ok (.invokevirtual 231, 3) := by decide +kernel
theorem dX7_fewest_36 : decode (mB M_X7_fewest) 36 = .ok (.pop, 1) := by decide +kernel
theorem dX7_fewest_37 : decode (mB M_X7_fewest) 37 = .ok (.iconst 0, 1) := by decide +kernel
theorem dX7_fewest_38 : decode (mB M_X7_fewest) 38 = .ok (.istore_n 1, 1) := by decide +kernel
theorem dX7_fewest_39 : decode (mB M_X7_fewest) 39 = .ok (.iload_n 1, 1) := by decide +kernel
theorem dX7_fewest_40 : decode (mB M_X7_fewest) 40 = .ok (.iconst 5, 1) := by decide +kernel
theorem dX7_fewest_41 : decode (mB M_X7_fewest) 41 = .ok (.if_icmp .gt 29, 3) := by decide +kernel
theorem dX7_fewest_44 : decode (mB M_X7_fewest) 44 = .ok (.aload_n 0, 1) := by decide +kernel
theorem dX7_fewest_45 : decode (mB M_X7_fewest) 45 = .ok (.getfield 28, 3) := by decide +kernel
theorem dX7_fewest_48 : decode (mB M_X7_fewest) 48 = .ok (.invokevirtual 105, 3) := by decide +kernel
theorem dX7_fewest_51 : decode (mB M_X7_fewest) 51 = .ok (.iconst 1, 1) := by decide +kernel
theorem dX7_fewest_52 : decode (mB M_X7_fewest) 52 = .ok (.if_icmp .le 18, 3) := by decide +kernel
theorem dX7_fewest_55 : decode (mB M_X7_fewest) 55 = .ok (.aload_n 0, 1) := by decide +kernel
theorem dX7_fewest_56 : decode (mB M_X7_fewest) 56 = .ok (.getfield 28, 3) := by decide +kernel
theorem dX7_fewest_59 : decode (mB M_X7_fewest) 59 = .ok (.iconst 0, 1) := by decide +kernel
theorem dX7_fewest_60 : decode (mB M_X7_fewest) 60 = .ok (.invokevirtual 242, 3) := by decide +kernel
theorem dX7_fewest_63 : decode (mB M_X7_fewest) 63 = .ok (.pop, 1) := by decide +kernel
theorem dX7_fewest_64 : decode (mB M_X7_fewest) 64 = .ok (.iinc 1 1, 3) := by decide +kernel
theorem dX7_fewest_67 : decode (mB M_X7_fewest) 67 = .ok (.goto (-28), 3) := by decide +kernel
theorem dX7_fewest_70 : decode (mB M_X7_fewest) 70 = .ok (.aload_n 0, 1) := by decide +kernel
theorem dX7_fewest_71 : decode (mB M_X7_fewest) 71 = .ok (.getfield 28, 3) := by decide +kernel
theorem dX7_fewest_74 : decode (mB M_X7_fewest) 74 = .ok (.invokevirtual 111, 3) := by decide +kernel
theorem dX7_fewest_77 : decode (mB M_X7_fewest) 77 = .ok (.ireturn, 1) := by decide +kernel
def b_X7_fewest_70 (v0 : Nat) (h : HP) : Option (Int32 × HP) :=
  (gR 7 2 h v0).bind fun x1 => (f_X3_size h x1).bind fun y2 => some (y2, h)
def c_X7_fewest_39 (v0 : Nat) (k39 : HP → Int32 → Option (Int32 × HP)) (h : HP) (v1 : Int32) : Option (Int32 × HP) :=
  if 5 < v1 then b_X7_fewest_70 v0 h else (gR 7 2 h v0).bind fun x2 => (f_X3_runs h x2).bind fun y3 => if y3 ≤ 1 then b_X7_fewest_70 v0 h else (gR 7 2 h v0).bind fun x5 => (f_X3_mergeRuns h x5 0).bind fun y6 => k39 y6.2 (v1 + 1)
def b_X7_fewest_39 (v0 : Nat) : Nat → HP → Int32 → Option (Int32 × HP)
  | 0, _, _ => none
  | n + 1, h, v1 => c_X7_fewest_39 v0 (b_X7_fewest_39 v0 n) h v1
def b_X7_fewest_0 (v0 : Nat) (h : HP) : Option (Int32 × HP) :=
  (gR 7 2 h v0).bind fun x1 => (gR 7 1 h v0).bind fun x2 => (f_X3_become h x1 x2).bind fun y3 => (gR 7 2 y3 v0).bind fun x4 => (f_X3_dropAllEyes y3 x4).bind fun y5 => (gR 7 2 y5 v0).bind fun x6 => (f_X3_sizeOf y5 x6 (-1)).bind fun y7 => if y7 ≤ 0 then b_X7_fewest_39 v0 FU y5 0 else (gR 7 2 y5 v0).bind fun x9 => (f_X3_flushMemory y5 x9).bind fun y10 => b_X7_fewest_39 v0 FU y10.2 0
def f_X7_fewest (h : HP) (v0 : Nat) : Option (Int32 × HP) := (kO 7 h v0).bind fun _ => b_X7_fewest_0 v0 h
theorem w_X7_fewest_70 {l : Launch} {X : SCR} {Q : PST} {bc bs : Nat} {res : Int32 × HP} {h : HP} (hQ : ∀ sz', Q (.inl (some (.int res.1))) res.2 sz') {v0 : Nat} {sz : Nat} (hf : b_X7_fewest_70 v0 h  = some res) : SP l X M_X7_fewest 70 [(0, .ref v0)] [] h sz bc bs Q := by
  rw [b_X7_fewest_70] at hf
  refine sp_aload_n (pc := 70) dX7_fewest_70 0 rfl ?_
  obtain ⟨x1, ex1, hf⟩ := ob hf
  refine sp_gR (pc := 71) fl_RX7_28 dX7_fewest_71 ex1 ?_
  obtain ⟨y2, ey2, hf⟩ := ob hf
  obtain ⟨fsy2, hoy2⟩ := o_X3_size ey2
  refine sp_callVi (pc := 74) (z := M_X3_size) (As := []) (b := x1) (bc2 := bc) (bs2 := bs) (m_X3_size (Q := _) (fun sz => ⟨y2, rfl, ?_⟩) ey2) rfl dX7_fewest_74 hoy2 rfl rfl ck_X7_fewest_111 (Nat.le_of_ble_eq_true rfl) rfl rfl rfl
  obtain rfl := Option.some.inj hf
  exact sp_ireturn (pc := 77) dX7_fewest_77 rfl rfl (hQ _)

theorem wc_X7_fewest_39 {l : Launch} {X : SCR} {Q : PST} {bc bs : Nat} {res : Int32 × HP} (hQ : ∀ sz', Q (.inl (some (.int res.1))) res.2 sz') {v0 : Nat} {k39 : HP → Int32 → Option (Int32 × HP)} (hk39 : ∀ (h : HP) (v1 : Int32) (sz : Nat), k39 h v1 = some res → SP l X M_X7_fewest 39 [(0, .ref v0), (1, .int v1)] [] h sz bc bs Q) {h : HP} {v1 : Int32} {sz : Nat} (hf : c_X7_fewest_39 v0 k39 h v1 = some res) : SP l X M_X7_fewest 39 [(0, .ref v0), (1, .int v1)] [] h sz bc bs Q := by
  rw [c_X7_fewest_39] at hf
  refine sp_iload_n (pc := 39) dX7_fewest_39 1 rfl ?_
  refine sp_iconst (pc := 40) (v := 5) dX7_fewest_40 (by decide) ?_
  refine sp_icmp_gt (pc := 41) (tgt := 70) dX7_fewest_41 (by decide) (fun c1 => ?_) (fun c1 => ?_)
  · rw [if_pos c1] at hf
    exact sp_sub [0] rfl (w_X7_fewest_70 hQ hf)
  · rw [if_neg c1] at hf
    refine sp_aload_n (pc := 44) dX7_fewest_44 0 rfl ?_
    obtain ⟨x2, ex2, hf⟩ := ob hf
    refine sp_gR (pc := 45) fl_RX7_28 dX7_fewest_45 ex2 ?_
    obtain ⟨y3, ey3, hf⟩ := ob hf
    obtain ⟨fsy3, hoy3⟩ := o_X3_runs ey3
    refine sp_callVi (pc := 48) (z := M_X3_runs) (As := []) (b := x2) (bc2 := bc) (bs2 := bs) (m_X3_runs (Q := _) (fun sz => ⟨y3, rfl, ?_⟩) ey3) rfl dX7_fewest_48 hoy3 rfl rfl ck_X7_fewest_105 (Nat.le_of_ble_eq_true rfl) rfl rfl rfl
    refine sp_iconst (pc := 51) (v := 1) dX7_fewest_51 (by decide) ?_
    refine sp_icmp_le (pc := 52) (tgt := 70) dX7_fewest_52 (by decide) (fun c4 => ?_) (fun c4 => ?_)
    · rw [if_pos c4] at hf
      exact sp_sub [0] rfl (w_X7_fewest_70 hQ hf)
    · rw [if_neg c4] at hf
      refine sp_aload_n (pc := 55) dX7_fewest_55 0 rfl ?_
      obtain ⟨x5, ex5, hf⟩ := ob hf
      refine sp_gR (pc := 56) fl_RX7_28 dX7_fewest_56 ex5 ?_
      refine sp_iconst (pc := 59) (v := 0) dX7_fewest_59 (by decide) ?_
      obtain ⟨y6, ey6, hf⟩ := ob hf
      obtain ⟨fsy6, hoy6⟩ := o_X3_mergeRuns ey6
      refine sp_callVi (pc := 60) (z := M_X3_mergeRuns) (As := [.int 0]) (b := x5) (bc2 := bc) (bs2 := bs) (m_X3_mergeRuns (Q := _) (fun sz => ⟨y6.1, rfl, ?_⟩) ey6) rfl dX7_fewest_60 hoy6 rfl rfl ck_X7_fewest_242 (Nat.le_of_ble_eq_true rfl) rfl rfl rfl
      refine sp_pop (pc := 63) dX7_fewest_63 rfl ?_
      refine sp_iinc (pc := 64) (v := v1 + 1) (lv' := [(1, .int (v1 + 1)), (0, .ref v0)]) dX7_fewest_64 1 rfl rfl (by decide) rfl ?_
      refine sp_goto (pc := 67) (tgt := 39) dX7_fewest_67 (by decide) ?_
      exact sp_sub [1, 0] rfl (hk39 _ _ _ hf)

theorem w_X7_fewest_39 {l : Launch} {X : SCR} {Q : PST} {bc bs : Nat} {res : Int32 × HP} (hQ : ∀ sz', Q (.inl (some (.int res.1))) res.2 sz') {v0 : Nat} : ∀ (n : Nat) {h : HP} {v1 : Int32} {sz : Nat}, b_X7_fewest_39 v0 n h v1 = some res → SP l X M_X7_fewest 39 [(0, .ref v0), (1, .int v1)] [] h sz bc bs Q := by
  intro n
  induction n with
  | zero =>
    intro h v1 sz hf
    rw [b_X7_fewest_39] at hf
    cases hf
  | succ n ih =>
    intro h v1 sz hf
    rw [b_X7_fewest_39] at hf
    exact wc_X7_fewest_39 hQ (fun h v1 sz hf => ih hf) hf

theorem w_X7_fewest_0 {l : Launch} {X : SCR} {Q : PST} {bc bs : Nat} {res : Int32 × HP} {h : HP} (hQ : ∀ sz', Q (.inl (some (.int res.1))) res.2 sz') {v0 : Nat} {sz : Nat} (hf : b_X7_fewest_0 v0 h  = some res) : SP l X M_X7_fewest 0 [(0, .ref v0)] [] h sz bc bs Q := by
  rw [b_X7_fewest_0] at hf
  refine sp_aload_n (pc := 0) dX7_fewest_0 0 rfl ?_
  obtain ⟨x1, ex1, hf⟩ := ob hf
  refine sp_gR (pc := 1) fl_RX7_28 dX7_fewest_1 ex1 ?_
  refine sp_aload_n (pc := 4) dX7_fewest_4 0 rfl ?_
  obtain ⟨x2, ex2, hf⟩ := ob hf
  refine sp_gR (pc := 5) fl_RX7_24 dX7_fewest_5 ex2 ?_
  obtain ⟨y3, ey3, hf⟩ := ob hf
  obtain ⟨fsy3, hoy3⟩ := o_X3_become ey3
  refine sp_callVv (pc := 8) (z := M_X3_become) (As := [.ref x2]) (b := x1) (bc2 := bc) (bs2 := bs) (m_X3_become (Q := _) (fun sz => ⟨(), rfl, ?_⟩) ey3) rfl dX7_fewest_8 hoy3 rfl rfl ck_X7_fewest_270 (Nat.le_of_ble_eq_true rfl) rfl rfl rfl
  refine sp_aload_n (pc := 11) dX7_fewest_11 0 rfl ?_
  obtain ⟨x4, ex4, hf⟩ := ob hf
  refine sp_gR (pc := 12) fl_RX7_28 dX7_fewest_12 ex4 ?_
  obtain ⟨y5, ey5, hf⟩ := ob hf
  obtain ⟨fsy5, hoy5⟩ := o_X3_dropAllEyes ey5
  refine sp_callVv (pc := 15) (z := M_X3_dropAllEyes) (As := []) (b := x4) (bc2 := bc) (bs2 := bs) (m_X3_dropAllEyes (Q := _) (fun sz => ⟨(), rfl, ?_⟩) ey5) rfl dX7_fewest_15 hoy5 rfl rfl ck_X7_fewest_273 (Nat.le_of_ble_eq_true rfl) rfl rfl rfl
  refine sp_aload_n (pc := 18) dX7_fewest_18 0 rfl ?_
  obtain ⟨x6, ex6, hf⟩ := ob hf
  refine sp_gR (pc := 19) fl_RX7_28 dX7_fewest_19 ex6 ?_
  refine sp_iconst (pc := 22) (v := (-1)) dX7_fewest_22 (by decide) ?_
  obtain ⟨y7, ey7, hf⟩ := ob hf
  obtain ⟨fsy7, hoy7⟩ := o_X3_sizeOf ey7
  refine sp_callVi (pc := 23) (z := M_X3_sizeOf) (As := [.int (-1)]) (b := x6) (bc2 := bc) (bs2 := bs) (m_X3_sizeOf (Q := _) (fun sz => ⟨y7, rfl, ?_⟩) ey7) rfl dX7_fewest_23 hoy7 rfl rfl ck_X7_fewest_101 (Nat.le_of_ble_eq_true rfl) rfl rfl rfl
  refine sp_if_le (pc := 26) (tgt := 37) dX7_fewest_26 (by decide) (fun c8 => ?_) (fun c8 => ?_)
  · rw [if_pos c8] at hf
    refine sp_iconst (pc := 37) (v := 0) dX7_fewest_37 (by decide) ?_
    refine sp_istore_n (pc := 38) (lv' := [(1, .int 0), (0, .ref v0)]) dX7_fewest_38 (by decide) rfl ?_
    exact sp_sub [1, 0] rfl (w_X7_fewest_39 hQ FU hf)
  · rw [if_neg c8] at hf
    refine sp_aload_n (pc := 29) dX7_fewest_29 0 rfl ?_
    obtain ⟨x9, ex9, hf⟩ := ob hf
    refine sp_gR (pc := 30) fl_RX7_28 dX7_fewest_30 ex9 ?_
    obtain ⟨y10, ey10, hf⟩ := ob hf
    obtain ⟨fsy10, hoy10⟩ := o_X3_flushMemory ey10
    refine sp_callVi (pc := 33) (z := M_X3_flushMemory) (As := []) (b := x9) (bc2 := bc) (bs2 := bs) (m_X3_flushMemory (Q := _) (fun sz => ⟨y10.1, rfl, ?_⟩) ey10) rfl dX7_fewest_33 hoy10 rfl rfl ck_X7_fewest_231 (Nat.le_of_ble_eq_true rfl) rfl rfl rfl
    refine sp_pop (pc := 36) dX7_fewest_36 rfl ?_
    refine sp_iconst (pc := 37) (v := 0) dX7_fewest_37 (by decide) ?_
    refine sp_istore_n (pc := 38) (lv' := [(1, .int 0), (0, .ref v0)]) dX7_fewest_38 (by decide) rfl ?_
    exact sp_sub [1, 0] rfl (w_X7_fewest_39 hQ FU hf)

theorem o_X7_fewest {h : HP} {v0 : Nat} {res : Int32 × HP} (hf : f_X7_fewest h v0 = some res) : ∃ fs, h v0 = some (.inr (7, fs)) := by
  obtain ⟨u, eu, -⟩ := ob hf
  exact kO_spec eu

theorem m_X7_fewest {l : Launch} {Q : PST} {h : HP} {v0 : Nat} {sz : Nat} {res : Int32 × HP} (hQ : ∀ sz', Q (.inl (some (.int res.1))) res.2 sz') (hf : f_X7_fewest h v0 = some res) : MM l M_X7_fewest [.ref v0] h sz Q := by
  obtain ⟨u, eu, hf⟩ := ob hf
  exact MM_of wok_X7_fewest (by decide +kernel) (Nat.le_of_ble_eq_true rfl) ((w_X7_fewest_0 hQ hf))

theorem dX7_withoutLast_0 : decode (mB M_X7_withoutLast) 0 = .ok (.lload_n 1, 1) := by decide +kernel
theorem dX7_withoutLast_1 : decode (mB M_X7_withoutLast) 1 = .ok (.lstore_n 3, 1) := by decide +kernel
theorem dX7_withoutLast_2 : decode (mB M_X7_withoutLast) 2 = .ok (.iconst 0, 1) := by decide +kernel
theorem dX7_withoutLast_3 : decode (mB M_X7_withoutLast) 3 = .ok (.istore 5, 2) := by decide +kernel
theorem dX7_withoutLast_5 : decode (mB M_X7_withoutLast) 5 = .ok (.iload 5, 2) := by decide +kernel
theorem dX7_withoutLast_7 : decode (mB M_X7_withoutLast) 7 = .ok (.iload_n 0, 1) := by decide +kernel
theorem dX7_withoutLast_8 : decode (mB M_X7_withoutLast) 8 = .ok (.if_icmp .ge 15, 3) := by decide +kernel
theorem dX7_withoutLast_11 : decode (mB M_X7_withoutLast) 11 = .ok (.lload_n 3, 1) := by decide +kernel
theorem dX7_withoutLast_12 : decode (mB M_X7_withoutLast) 12 = .ok (.ldc2_w 284, 3) := by decide +kernel
theorem dX7_withoutLast_15 : decode (mB M_X7_withoutLast) 15 = .ok (.ldiv, 1) := by decide +kernel
theorem dX7_withoutLast_16 : decode (mB M_X7_withoutLast) 16 = .ok (.lstore_n 3, 1) := by decide +kernel
theorem dX7_withoutLast_17 : decode (mB M_X7_withoutLast) 17 = .ok (.iinc 5 1, 3) := by decide +kernel
theorem dX7_withoutLast_20 : decode (mB M_X7_withoutLast) 20 = .ok (.goto (-15), 3) := by decide +kernel
theorem dX7_withoutLast_23 : decode (mB M_X7_withoutLast) 23 = .ok (.lload_n 3, 1) := by decide +kernel
theorem dX7_withoutLast_24 : decode (mB M_X7_withoutLast) 24 = .ok (.lreturn, 1) := by decide +kernel
def c_X7_withoutLast_5 (h : HP) (v0 : Int32) (k5 : Int64 → Int32 → Option (Int64)) (v3 : Int64) (v5 : Int32) : Option (Int64) :=
  if v0 ≤ v5 then some (v3) else k5 (v3 / 100000) (v5 + 1)
def b_X7_withoutLast_5 (h : HP) (v0 : Int32) : Nat → Int64 → Int32 → Option (Int64)
  | 0, _, _ => none
  | n + 1, v3, v5 => c_X7_withoutLast_5 h v0 (b_X7_withoutLast_5 h v0 n) v3 v5
def b_X7_withoutLast_0 (h : HP) (v0 : Int32) (v1 : Int64) : Option (Int64) :=
  b_X7_withoutLast_5 h v0 FU v1 0
def f_X7_withoutLast (h : HP) (v0 : Int32) (v1 : Int64) : Option (Int64) := b_X7_withoutLast_0 h v0 v1
theorem wc_X7_withoutLast_5 {l : Launch} {X : SCR} {Q : PST} {bc bs : Nat} {res : Int64} {h : HP} (hQ : ∀ sz', Q (.inl (some (.long res))) h sz') {v0 : Int32} {k5 : Int64 → Int32 → Option (Int64)} (hk5 : ∀ (v3 : Int64) (v5 : Int32) (sz : Nat), k5 v3 v5 = some res → SP l X M_X7_withoutLast 5 [(0, .int v0), (3, .long v3), (5, .int v5)] [] h sz bc bs Q) {v3 : Int64} {v5 : Int32} {sz : Nat} (hf : c_X7_withoutLast_5 h v0 k5 v3 v5 = some res) : SP l X M_X7_withoutLast 5 [(0, .int v0), (3, .long v3), (5, .int v5)] [] h sz bc bs Q := by
  rw [c_X7_withoutLast_5] at hf
  refine sp_iload (pc := 5) dX7_withoutLast_5 2 rfl ?_
  refine sp_iload_n (pc := 7) dX7_withoutLast_7 0 rfl ?_
  refine sp_icmp_ge (pc := 8) (tgt := 23) dX7_withoutLast_8 (by decide) (fun c1 => ?_) (fun c1 => ?_)
  · rw [if_pos c1] at hf
    refine sp_lload_n (pc := 23) dX7_withoutLast_23 1 rfl ?_
    obtain rfl := Option.some.inj hf
    exact sp_lreturn (pc := 24) dX7_withoutLast_24 rfl (hQ _)
  · rw [if_neg c1] at hf
    refine sp_lload_n (pc := 11) dX7_withoutLast_11 1 rfl ?_
    refine sp_ldc2 (pc := 12) dX7_withoutLast_12 bk_922 ?_
    refine sp_ldiv (pc := 15) dX7_withoutLast_15 (by decide) ?_
    refine sp_lstore_n (pc := 16) (lv' := [(3, .long (v3 / 100000)), (0, .int v0), (5, .int v5)]) dX7_withoutLast_16 (by decide) rfl ?_
    refine sp_iinc (pc := 17) (v := v5 + 1) (lv' := [(5, .int (v5 + 1)), (3, .long (v3 / 100000)), (0, .int v0)]) dX7_withoutLast_17 2 rfl rfl (by decide) rfl ?_
    refine sp_goto (pc := 20) (tgt := 5) dX7_withoutLast_20 (by decide) ?_
    exact sp_sub [2, 1, 0] rfl (hk5 _ _ _ hf)

theorem w_X7_withoutLast_5 {l : Launch} {X : SCR} {Q : PST} {bc bs : Nat} {res : Int64} {h : HP} (hQ : ∀ sz', Q (.inl (some (.long res))) h sz') {v0 : Int32} : ∀ (n : Nat) {v3 : Int64} {v5 : Int32} {sz : Nat}, b_X7_withoutLast_5 h v0 n v3 v5 = some res → SP l X M_X7_withoutLast 5 [(0, .int v0), (3, .long v3), (5, .int v5)] [] h sz bc bs Q := by
  intro n
  induction n with
  | zero =>
    intro v3 v5 sz hf
    rw [b_X7_withoutLast_5] at hf
    cases hf
  | succ n ih =>
    intro v3 v5 sz hf
    rw [b_X7_withoutLast_5] at hf
    exact wc_X7_withoutLast_5 hQ (fun v3 v5 sz hf => ih hf) hf

theorem w_X7_withoutLast_0 {l : Launch} {X : SCR} {Q : PST} {bc bs : Nat} {res : Int64} {h : HP} (hQ : ∀ sz', Q (.inl (some (.long res))) h sz') {v0 : Int32} {v1 : Int64} {sz : Nat} (hf : b_X7_withoutLast_0 h v0 v1  = some res) : SP l X M_X7_withoutLast 0 [(0, .int v0), (1, .long v1)] [] h sz bc bs Q := by
  rw [b_X7_withoutLast_0] at hf
  refine sp_lload_n (pc := 0) dX7_withoutLast_0 1 rfl ?_
  refine sp_lstore_n (pc := 1) (lv' := [(3, .long v1), (0, .int v0), (1, .long v1)]) dX7_withoutLast_1 (by decide) rfl ?_
  refine sp_iconst (pc := 2) (v := 0) dX7_withoutLast_2 (by decide) ?_
  refine sp_istore (pc := 3) (lv' := [(5, .int 0), (3, .long v1), (0, .int v0), (1, .long v1)]) dX7_withoutLast_3 (by decide) rfl ?_
  exact sp_sub [2, 1, 0] rfl (w_X7_withoutLast_5 hQ FU hf)

theorem m_X7_withoutLast {l : Launch} {Q : PST} {h : HP} {v0 : Int32} {v1 : Int64} {sz : Nat} {res : Int64} (hQ : ∀ sz', Q (.inl (some (.long res))) h sz') (hf : f_X7_withoutLast h v0 v1 = some res) : MM l M_X7_withoutLast [.int v0, .long v1] h sz Q := by
  rw [f_X7_withoutLast] at hf
  exact MM_of wok_X7_withoutLast (by decide +kernel) (Nat.le_of_ble_eq_true rfl) ((w_X7_withoutLast_0 hQ hf))

theorem dX7_doGroup_0 : decode (mB M_X7_doGroup) 0 = .ok (.iload_n 1, 1) := by decide +kernel
theorem dX7_doGroup_1 : decode (mB M_X7_doGroup) 1 = .ok (.sipush 1000, 3) := by decide +kernel
theorem dX7_doGroup_4 : decode (mB M_X7_doGroup) 4 = .ok (.idiv, 1) := by decide +kernel
theorem dX7_doGroup_5 : decode (mB M_X7_doGroup) 5 = .ok (.bipush 10, 2) := by decide +kernel
theorem dX7_doGroup_7 : decode (mB M_X7_doGroup) 7 = .ok (.irem, 1) := by decide +kernel
theorem dX7_doGroup_8 : decode (mB M_X7_doGroup) 8 = .ok (.istore_n 2, 1) := by decide +kernel
theorem dX7_doGroup_9 : decode (mB M_X7_doGroup) 9 = .ok (.iload_n 1, 1) := by decide +kernel
theorem dX7_doGroup_10 : decode (mB M_X7_doGroup) 10 = .ok (.sipush 1000, 3) := by decide +kernel
theorem dX7_doGroup_13 : decode (mB M_X7_doGroup) 13 = .ok (.irem, 1) := by decide +kernel
theorem dX7_doGroup_14 : decode (mB M_X7_doGroup) 14 = .ok (.istore_n 3, 1) := by decide +kernel
theorem dX7_doGroup_15 : decode (mB M_X7_doGroup) 15 = .ok (.iload_n 1, 1) := by decide +kernel
theorem dX7_doGroup_16 : decode (mB M_X7_doGroup) 16 = .ok (.bipush 100, 2) := by decide +kernel
theorem dX7_doGroup_18 : decode (mB M_X7_doGroup) 18 = .ok (.idiv, 1) := by decide +kernel
theorem dX7_doGroup_19 : decode (mB M_X7_doGroup) 19 = .ok (.bipush 100, 2) := by decide +kernel
theorem dX7_doGroup_21 : decode (mB M_X7_doGroup) 21 = .ok (.irem, 1) := by decide +kernel
theorem dX7_doGroup_22 : decode (mB M_X7_doGroup) 22 = .ok (.istore 4, 2) := by decide +kernel
theorem dX7_doGroup_24 : decode (mB M_X7_doGroup) 24 = .ok (.iload_n 1, 1) := by decide +kernel
theorem dX7_doGroup_25 : decode (mB M_X7_doGroup) 25 = .ok (.bipush 100, 2) := by decide +kernel
theorem dX7_doGroup_27 : decode (mB M_X7_doGroup) 27 = .ok (.irem, 1) := by decide +kernel
theorem dX7_doGroup_28 : decode (mB M_X7_doGroup) 28 = .ok (.istore 5, 2) := by decide +kernel
theorem dX7_doGroup_30 : decode (mB M_X7_doGroup) 30 = .ok (.iload_n 1, 1) := by decide +kernel
theorem dX7_doGroup_31 : decode (mB M_X7_doGroup) 31 = .ok (.sipush 10000, 3) := by decide +kernel
theorem dX7_doGroup_34 : decode (mB M_X7_doGroup) 34 = .ok (.idiv, 1) := by decide +kernel
theorem dX7_doGroup_35 : decode (mB M_X7_doGroup) 35 = .ok (.tableswitch 259 1 9 #[49, 61, 73, 97, 118, 142, 163, 190, 213], 49) := by decide +kernel
theorem dX7_doGroup_84 : decode (mB M_X7_doGroup) 84 = .ok (.aload_n 0, 1) := by decide +kernel
theorem dX7_doGroup_85 : decode (mB M_X7_doGroup) 85 = .ok (.getfield 28, 3) := by decide +kernel
theorem dX7_doGroup_88 : decode (mB M_X7_doGroup) 88 = .ok (.iload 4, 2) := by decide +kernel
theorem dX7_doGroup_90 : decode (mB M_X7_doGroup) 90 = .ok (.iload 5, 2) := by decide +kernel
theorem dX7_doGroup_92 : decode (mB M_X7_doGroup) 92 = .ok (.invokevirtual 308, 3) := by decide +kernel
theorem dX7_doGroup_95 : decode (mB M_X7_doGroup) 95 = .ok (.ireturn, 1) := by decide +kernel
theorem dX7_doGroup_96 : decode (mB M_X7_doGroup) 96 = .ok (.aload_n 0, 1) := by decide +kernel
theorem dX7_doGroup_97 : decode (mB M_X7_doGroup) 97 = .ok (.getfield 28, 3) := by decide +kernel
theorem dX7_doGroup_100 : decode (mB M_X7_doGroup) 100 = .ok (.iload 4, 2) := by decide +kernel
theorem dX7_doGroup_102 : decode (mB M_X7_doGroup) 102 = .ok (.iload 5, 2) := by decide +kernel
theorem dX7_doGroup_104 : decode (mB M_X7_doGroup) 104 = .ok (.invokevirtual 311, 3) := by decide +kernel
theorem dX7_doGroup_107 : decode (mB M_X7_doGroup) 107 = .ok (.ireturn, 1) := by decide +kernel
theorem dX7_doGroup_108 : decode (mB M_X7_doGroup) 108 = .ok (.iload_n 1, 1) := by decide +kernel
theorem dX7_doGroup_109 : decode (mB M_X7_doGroup) 109 = .ok (.sipush 10000, 3) := by decide +kernel
theorem dX7_doGroup_112 : decode (mB M_X7_doGroup) 112 = .ok (.irem, 1) := by decide +kernel
theorem dX7_doGroup_113 : decode (mB M_X7_doGroup) 113 = .ok (.ifCond .ne 17, 3) := by decide +kernel
theorem dX7_doGroup_116 : decode (mB M_X7_doGroup) 116 = .ok (.aload_n 0, 1) := by decide +kernel
theorem dX7_doGroup_117 : decode (mB M_X7_doGroup) 117 = .ok (.getfield 28, 3) := by decide +kernel
theorem dX7_doGroup_120 : decode (mB M_X7_doGroup) 120 = .ok (.invokevirtual 314, 3) := by decide +kernel
theorem dX7_doGroup_123 : decode (mB M_X7_doGroup) 123 = .ok (.ifCond .eq 7, 3) := by decide +kernel
theorem dX7_doGroup_126 : decode (mB M_X7_doGroup) 126 = .ok (.iconst 1, 1) := by decide +kernel
theorem dX7_doGroup_127 : decode (mB M_X7_doGroup) 127 = .ok (.goto 4, 3) := by decide +kernel
theorem dX7_doGroup_130 : decode (mB M_X7_doGroup) 130 = .ok (.iconst 0, 1) := by decide +kernel
theorem dX7_doGroup_131 : decode (mB M_X7_doGroup) 131 = .ok (.ireturn, 1) := by decide +kernel
theorem dX7_doGroup_132 : decode (mB M_X7_doGroup) 132 = .ok (.iload_n 3, 1) := by decide +kernel
theorem dX7_doGroup_133 : decode (mB M_X7_doGroup) 133 = .ok (.ifCond .ne 18, 3) := by decide +kernel
theorem dX7_doGroup_136 : decode (mB M_X7_doGroup) 136 = .ok (.aload_n 0, 1) := by decide +kernel
theorem dX7_doGroup_137 : decode (mB M_X7_doGroup) 137 = .ok (.getfield 28, 3) := by decide +kernel
theorem dX7_doGroup_140 : decode (mB M_X7_doGroup) 140 = .ok (.iload_n 2, 1) := by decide +kernel
theorem dX7_doGroup_141 : decode (mB M_X7_doGroup) 141 = .ok (.invokevirtual 317, 3) := by decide +kernel
theorem dX7_doGroup_144 : decode (mB M_X7_doGroup) 144 = .ok (.ifCond .eq 7, 3) := by decide +kernel
theorem dX7_doGroup_147 : decode (mB M_X7_doGroup) 147 = .ok (.iconst 1, 1) := by decide +kernel
theorem dX7_doGroup_148 : decode (mB M_X7_doGroup) 148 = .ok (.goto 4, 3) := by decide +kernel
theorem dX7_doGroup_151 : decode (mB M_X7_doGroup) 151 = .ok (.iconst 0, 1) := by decide +kernel
theorem dX7_doGroup_152 : decode (mB M_X7_doGroup) 152 = .ok (.ireturn, 1) := by decide +kernel
theorem dX7_doGroup_153 : decode (mB M_X7_doGroup) 153 = .ok (.iload_n 1, 1) := by decide +kernel
theorem dX7_doGroup_154 : decode (mB M_X7_doGroup) 154 = .ok (.sipush 10000, 3) := by decide +kernel
theorem dX7_doGroup_157 : decode (mB M_X7_doGroup) 157 = .ok (.irem, 1) := by decide +kernel
theorem dX7_doGroup_158 : decode (mB M_X7_doGroup) 158 = .ok (.ifCond .ne 17, 3) := by decide +kernel
theorem dX7_doGroup_161 : decode (mB M_X7_doGroup) 161 = .ok (.aload_n 0, 1) := by decide +kernel
theorem dX7_doGroup_162 : decode (mB M_X7_doGroup) 162 = .ok (.getfield 28, 3) := by decide +kernel
theorem dX7_doGroup_165 : decode (mB M_X7_doGroup) 165 = .ok (.invokevirtual 320, 3) := by decide +kernel
theorem dX7_doGroup_168 : decode (mB M_X7_doGroup) 168 = .ok (.ifCond .eq 7, 3) := by decide +kernel
theorem dX7_doGroup_171 : decode (mB M_X7_doGroup) 171 = .ok (.iconst 1, 1) := by decide +kernel
theorem dX7_doGroup_172 : decode (mB M_X7_doGroup) 172 = .ok (.goto 4, 3) := by decide +kernel
theorem dX7_doGroup_175 : decode (mB M_X7_doGroup) 175 = .ok (.iconst 0, 1) := by decide +kernel
theorem dX7_doGroup_176 : decode (mB M_X7_doGroup) 176 = .ok (.ireturn, 1) := by decide +kernel
theorem dX7_doGroup_177 : decode (mB M_X7_doGroup) 177 = .ok (.iload_n 3, 1) := by decide +kernel
theorem dX7_doGroup_178 : decode (mB M_X7_doGroup) 178 = .ok (.ifCond .ne 18, 3) := by decide +kernel
theorem dX7_doGroup_181 : decode (mB M_X7_doGroup) 181 = .ok (.aload_n 0, 1) := by decide +kernel
theorem dX7_doGroup_182 : decode (mB M_X7_doGroup) 182 = .ok (.getfield 28, 3) := by decide +kernel
theorem dX7_doGroup_185 : decode (mB M_X7_doGroup) 185 = .ok (.iload_n 2, 1) := by decide +kernel
theorem dX7_doGroup_186 : decode (mB M_X7_doGroup) 186 = .ok (.invokevirtual 323, 3) := by decide +kernel
theorem dX7_doGroup_189 : decode (mB M_X7_doGroup) 189 = .ok (.ifCond .eq 7, 3) := by decide +kernel
theorem dX7_doGroup_192 : decode (mB M_X7_doGroup) 192 = .ok (.iconst 1, 1) := by decide +kernel
theorem dX7_doGroup_193 : decode (mB M_X7_doGroup) 193 = .ok (.goto 4, 3) := by decide +kernel
theorem dX7_doGroup_196 : decode (mB M_X7_doGroup) 196 = .ok (.iconst 0, 1) := by decide +kernel
theorem dX7_doGroup_197 : decode (mB M_X7_doGroup) 197 = .ok (.ireturn, 1) := by decide +kernel
theorem dX7_doGroup_198 : decode (mB M_X7_doGroup) 198 = .ok (.aload_n 0, 1) := by decide +kernel
theorem dX7_doGroup_199 : decode (mB M_X7_doGroup) 199 = .ok (.getfield 28, 3) := by decide +kernel
theorem dX7_doGroup_202 : decode (mB M_X7_doGroup) 202 = .ok (.iload 4, 2) := by decide +kernel
theorem dX7_doGroup_204 : decode (mB M_X7_doGroup) 204 = .ok (.aload_n 0, 1) := by decide +kernel
theorem dX7_doGroup_205 : decode (mB M_X7_doGroup) 205 = .ok (.getfield 28, 3) := by decide +kernel
theorem dX7_doGroup_208 : decode (mB M_X7_doGroup) 208 = .ok (.invokevirtual 98, 3) := by decide +kernel
theorem dX7_doGroup_211 : decode (mB M_X7_doGroup) 211 = .ok (.invokevirtual 148, 3) := by decide +kernel
theorem dX7_doGroup_214 : decode (mB M_X7_doGroup) 214 = .ok (.iload 5, 2) := by decide +kernel
theorem dX7_doGroup_216 : decode (mB M_X7_doGroup) 216 = .ok (.if_icmp .ne 7, 3) := by decide +kernel
theorem dX7_doGroup_219 : decode (mB M_X7_doGroup) 219 = .ok (.iconst 1, 1) := by decide +kernel
theorem dX7_doGroup_220 : decode (mB M_X7_doGroup) 220 = .ok (.goto 4, 3) := by decide +kernel
theorem dX7_doGroup_223 : decode (mB M_X7_doGroup) 223 = .ok (.iconst 0, 1) := by decide +kernel
theorem dX7_doGroup_224 : decode (mB M_X7_doGroup) 224 = .ok (.ireturn, 1) := by decide +kernel
theorem dX7_doGroup_225 : decode (mB M_X7_doGroup) 225 = .ok (.iload 4, 2) := by decide +kernel
theorem dX7_doGroup_227 : decode (mB M_X7_doGroup) 227 = .ok (.ifCond .ne 19, 3) := by decide +kernel
theorem dX7_doGroup_230 : decode (mB M_X7_doGroup) 230 = .ok (.aload_n 0, 1) := by decide +kernel
theorem dX7_doGroup_231 : decode (mB M_X7_doGroup) 231 = .ok (.getfield 28, 3) := by decide +kernel
theorem dX7_doGroup_234 : decode (mB M_X7_doGroup) 234 = .ok (.invokevirtual 111, 3) := by decide +kernel
theorem dX7_doGroup_237 : decode (mB M_X7_doGroup) 237 = .ok (.iload 5, 2) := by decide +kernel
theorem dX7_doGroup_239 : decode (mB M_X7_doGroup) 239 = .ok (.if_icmp .gt 7, 3) := by decide +kernel
theorem dX7_doGroup_242 : decode (mB M_X7_doGroup) 242 = .ok (.iconst 1, 1) := by decide +kernel
theorem dX7_doGroup_243 : decode (mB M_X7_doGroup) 243 = .ok (.goto 4, 3) := by decide +kernel
theorem dX7_doGroup_246 : decode (mB M_X7_doGroup) 246 = .ok (.iconst 0, 1) := by decide +kernel
theorem dX7_doGroup_247 : decode (mB M_X7_doGroup) 247 = .ok (.ireturn, 1) := by decide +kernel
theorem dX7_doGroup_248 : decode (mB M_X7_doGroup) 248 = .ok (.iload_n 1, 1) := by decide +kernel
theorem dX7_doGroup_249 : decode (mB M_X7_doGroup) 249 = .ok (.bipush 10, 2) := by decide +kernel
theorem dX7_doGroup_251 : decode (mB M_X7_doGroup) 251 = .ok (.irem, 1) := by decide +kernel
theorem dX7_doGroup_252 : decode (mB M_X7_doGroup) 252 = .ok (.ifCond .ne 40, 3) := by decide +kernel
theorem dX7_doGroup_255 : decode (mB M_X7_doGroup) 255 = .ok (.aload_n 0, 1) := by decide +kernel
theorem dX7_doGroup_256 : decode (mB M_X7_doGroup) 256 = .ok (.getfield 28, 3) := by decide +kernel
theorem dX7_doGroup_259 : decode (mB M_X7_doGroup) 259 = .ok (.iload_n 2, 1) := by decide +kernel
theorem dX7_doGroup_260 : decode (mB M_X7_doGroup) 260 = .ok (.invokevirtual 187, 3) := by decide +kernel
theorem dX7_doGroup_263 : decode (mB M_X7_doGroup) 263 = .ok (.ifCond .eq 29, 3) := by decide +kernel
theorem dX7_doGroup_266 : decode (mB M_X7_doGroup) 266 = .ok (.aload_n 0, 1) := by decide +kernel
theorem dX7_doGroup_267 : decode (mB M_X7_doGroup) 267 = .ok (.getfield 28, 3) := by decide +kernel
theorem dX7_doGroup_270 : decode (mB M_X7_doGroup) 270 = .ok (.iload_n 3, 1) := by decide +kernel
theorem dX7_doGroup_271 : decode (mB M_X7_doGroup) 271 = .ok (.bipush 10, 2) := by decide +kernel
theorem dX7_doGroup_273 : decode (mB M_X7_doGroup) 273 = .ok (.idiv, 1) := by decide +kernel
theorem dX7_doGroup_274 : decode (mB M_X7_doGroup) 274 = .ok (.aload_n 0, 1) := by decide +kernel
theorem dX7_doGroup_275 : decode (mB M_X7_doGroup) 275 = .ok (.getfield 28, 3) := by decide +kernel
theorem dX7_doGroup_278 : decode (mB M_X7_doGroup) 278 = .ok (.iload_n 2, 1) := by decide +kernel
theorem dX7_doGroup_279 : decode (mB M_X7_doGroup) 279 = .ok (.invokevirtual 145, 3) := by decide +kernel
theorem dX7_doGroup_282 : decode (mB M_X7_doGroup) 282 = .ok (.invokevirtual 148, 3) := by decide +kernel
theorem dX7_doGroup_285 : decode (mB M_X7_doGroup) 285 = .ok (.ifCond .eq 7, 3) := by decide +kernel
theorem dX7_doGroup_288 : decode (mB M_X7_doGroup) 288 = .ok (.iconst 1, 1) := by decide +kernel
theorem dX7_doGroup_289 : decode (mB M_X7_doGroup) 289 = .ok (.goto 4, 3) := by decide +kernel
theorem dX7_doGroup_292 : decode (mB M_X7_doGroup) 292 = .ok (.iconst 0, 1) := by decide +kernel
theorem dX7_doGroup_293 : decode (mB M_X7_doGroup) 293 = .ok (.ireturn, 1) := by decide +kernel
theorem dX7_doGroup_294 : decode (mB M_X7_doGroup) 294 = .ok (.iconst 0, 1) := by decide +kernel
theorem dX7_doGroup_295 : decode (mB M_X7_doGroup) 295 = .ok (.ireturn, 1) := by decide +kernel
def b_X7_doGroup_0 (v0 : Nat) (v1 : Int32) (h : HP) : Option (Int32 × HP) :=
  if (v1 / 10000) = 1 then (gR 7 2 h v0).bind fun x2 => (f_X3_tryPut h x2 (jrem (v1 / 100) 100) (jrem v1 100)).bind fun y3 => (bz y3.1).bind fun x4 => some (x4, y3.2) else if (v1 / 10000) = 2 then (gR 7 2 h v0).bind fun x6 => (f_X3_tryBury h x6 (jrem (v1 / 100) 100) (jrem v1 100)).bind fun y7 => (bz y7.1).bind fun x8 => some (x8, y7.2) else if (v1 / 10000) = 3 then if (jrem v1 10000) = 0 then (gR 7 2 h v0).bind fun x11 => (f_X3_tryFlush h x11).bind fun y12 => if y12.1 = 0 then some (0, y12.2) else some (1, y12.2) else some (0, h) else if (v1 / 10000) = 4 then if (jrem v1 1000) = 0 then (gR 7 2 h v0).bind fun x16 => (f_X3_tryMerge h x16 (jrem (v1 / 1000) 10)).bind fun y17 => if y17.1 = 0 then some (0, y17.2) else some (1, y17.2) else some (0, h) else if (v1 / 10000) = 5 then if (jrem v1 10000) = 0 then (gR 7 2 h v0).bind fun x21 => (f_X3_tryOpen h x21).bind fun y22 => if y22.1 = 0 then some (0, y22.2) else some (1, y22.2) else some (0, h) else if (v1 / 10000) = 6 then if (jrem v1 1000) = 0 then (gR 7 2 h v0).bind fun x26 => (f_X3_tryClose h x26 (jrem (v1 / 1000) 10)).bind fun y27 => if y27.1 = 0 then some (0, y27.2) else some (1, y27.2) else some (0, h) else if (v1 / 10000) = 7 then (gR 7 2 h v0).bind fun x30 => (gR 7 2 h v0).bind fun x31 => (f_X3_latest h x31).bind fun y32 => (f_X3_valueFor h x30 (jrem (v1 / 100) 100) y32).bind fun y33 => if y33 = (jrem v1 100) then some (1, h) else some (0, h) else if (v1 / 10000) = 8 then if (jrem (v1 / 100) 100) = 0 then (gR 7 2 h v0).bind fun x37 => (f_X3_size h x37).bind fun y38 => if (jrem v1 100) < y38 then some (0, h) else some (1, h) else some (0, h) else if (v1 / 10000) = 9 then if (jrem v1 10) = 0 then (gR 7 2 h v0).bind fun x42 => (f_X3_isEye h x42 (jrem (v1 / 1000) 10)).bind fun y43 => if y43 = 0 then some (0, h) else (gR 7 2 h v0).bind fun x45 => (gR 7 2 h v0).bind fun x46 => (f_X3_limitOf h x46 (jrem (v1 / 1000) 10)).bind fun y47 => (f_X3_valueFor h x45 ((jrem v1 1000) / 10) y47).bind fun y48 => if y48 = 0 then some (0, h) else some (1, h) else some (0, h) else some (0, h)
def f_X7_doGroup (h : HP) (v0 : Nat) (v1 : Int32) : Option (Int32 × HP) := (kO 7 h v0).bind fun _ => b_X7_doGroup_0 v0 v1 h
theorem w_X7_doGroup_0 {l : Launch} {X : SCR} {Q : PST} {bc bs : Nat} {res : Int32 × HP} {h : HP} (hQ : ∀ sz', Q (.inl (some (.int res.1))) res.2 sz') {v0 : Nat} {v1 : Int32} {sz : Nat} (hf : b_X7_doGroup_0 v0 v1 h  = some res) : SP l X M_X7_doGroup 0 [(0, .ref v0), (1, .int v1)] [] h sz bc bs Q := by
  rw [b_X7_doGroup_0] at hf
  refine sp_iload_n (pc := 0) dX7_doGroup_0 1 rfl ?_
  refine sp_sipush (pc := 1) (v := 1000) dX7_doGroup_1 (by decide) ?_
  refine sp_idiv (pc := 4) dX7_doGroup_4 (by decide) ?_
  refine sp_bipush (pc := 5) (v := 10) dX7_doGroup_5 (by decide) ?_
  refine sp_iremJ (pc := 7) dX7_doGroup_7 (by decide) ?_
  refine sp_istore_n (pc := 8) (lv' := [(2, .int (jrem (v1 / 1000) 10)), (0, .ref v0), (1, .int v1)]) dX7_doGroup_8 (by decide) rfl ?_
  refine sp_iload_n (pc := 9) dX7_doGroup_9 2 rfl ?_
  refine sp_sipush (pc := 10) (v := 1000) dX7_doGroup_10 (by decide) ?_
  refine sp_iremJ (pc := 13) dX7_doGroup_13 (by decide) ?_
  refine sp_istore_n (pc := 14) (lv' := [(3, .int (jrem v1 1000)), (2, .int (jrem (v1 / 1000) 10)), (0, .ref v0), (1, .int v1)]) dX7_doGroup_14 (by decide) rfl ?_
  refine sp_iload_n (pc := 15) dX7_doGroup_15 3 rfl ?_
  refine sp_bipush (pc := 16) (v := 100) dX7_doGroup_16 (by decide) ?_
  refine sp_idiv (pc := 18) dX7_doGroup_18 (by decide) ?_
  refine sp_bipush (pc := 19) (v := 100) dX7_doGroup_19 (by decide) ?_
  refine sp_iremJ (pc := 21) dX7_doGroup_21 (by decide) ?_
  refine sp_istore (pc := 22) (lv' := [(4, .int (jrem (v1 / 100) 100)), (3, .int (jrem v1 1000)), (2, .int (jrem (v1 / 1000) 10)), (0, .ref v0), (1, .int v1)]) dX7_doGroup_22 (by decide) rfl ?_
  refine sp_iload_n (pc := 24) dX7_doGroup_24 4 rfl ?_
  refine sp_bipush (pc := 25) (v := 100) dX7_doGroup_25 (by decide) ?_
  refine sp_iremJ (pc := 27) dX7_doGroup_27 (by decide) ?_
  refine sp_istore (pc := 28) (lv' := [(5, .int (jrem v1 100)), (4, .int (jrem (v1 / 100) 100)), (3, .int (jrem v1 1000)), (2, .int (jrem (v1 / 1000) 10)), (0, .ref v0), (1, .int v1)]) dX7_doGroup_28 (by decide) rfl ?_
  refine sp_iload_n (pc := 30) dX7_doGroup_30 5 rfl ?_
  refine sp_sipush (pc := 31) (v := 10000) dX7_doGroup_31 (by decide) ?_
  refine sp_idiv (pc := 34) dX7_doGroup_34 (by decide) ?_
  by_cases c1 : (v1 / 10000) = 1
  · rw [if_pos c1] at hf
    refine sp_tableIn (pc := 35) (off := 49) (tgt := 84) dX7_doGroup_35 (by rw [c1]; decide) (by rw [c1]; decide) (by rw [c1]; rfl) (by decide) ?_
    refine sp_aload_n (pc := 84) dX7_doGroup_84 4 rfl ?_
    obtain ⟨x2, ex2, hf⟩ := ob hf
    refine sp_gR (pc := 85) fl_RX7_28 dX7_doGroup_85 ex2 ?_
    refine sp_iload (pc := 88) dX7_doGroup_88 1 rfl ?_
    refine sp_iload (pc := 90) dX7_doGroup_90 0 rfl ?_
    obtain ⟨y3, ey3, hf⟩ := ob hf
    obtain ⟨fsy3, hoy3⟩ := o_X3_tryPut ey3
    refine sp_callVi (pc := 92) (z := M_X3_tryPut) (As := [.int (jrem (v1 / 100) 100), .int (jrem v1 100)]) (b := x2) (bc2 := bc) (bs2 := bs) (m_X3_tryPut (Q := _) (fun sz => ⟨y3.1, rfl, ?_⟩) ey3) rfl dX7_doGroup_92 hoy3 rfl rfl ck_X7_doGroup_308 (Nat.le_of_ble_eq_true rfl) rfl rfl rfl
    obtain ⟨x4, ex4, hf⟩ := ob hf
    obtain rfl := Option.some.inj hf
    exact sp_iretZ (pc := 95) dX7_doGroup_95 rfl ex4 (hQ _)
  rw [if_neg c1] at hf
  by_cases c5 : (v1 / 10000) = 2
  · rw [if_pos c5] at hf
    refine sp_tableIn (pc := 35) (off := 61) (tgt := 96) dX7_doGroup_35 (by rw [c5]; decide) (by rw [c5]; decide) (by rw [c5]; rfl) (by decide) ?_
    refine sp_aload_n (pc := 96) dX7_doGroup_96 4 rfl ?_
    obtain ⟨x6, ex6, hf⟩ := ob hf
    refine sp_gR (pc := 97) fl_RX7_28 dX7_doGroup_97 ex6 ?_
    refine sp_iload (pc := 100) dX7_doGroup_100 1 rfl ?_
    refine sp_iload (pc := 102) dX7_doGroup_102 0 rfl ?_
    obtain ⟨y7, ey7, hf⟩ := ob hf
    obtain ⟨fsy7, hoy7⟩ := o_X3_tryBury ey7
    refine sp_callVi (pc := 104) (z := M_X3_tryBury) (As := [.int (jrem (v1 / 100) 100), .int (jrem v1 100)]) (b := x6) (bc2 := bc) (bs2 := bs) (m_X3_tryBury (Q := _) (fun sz => ⟨y7.1, rfl, ?_⟩) ey7) rfl dX7_doGroup_104 hoy7 rfl rfl ck_X7_doGroup_311 (Nat.le_of_ble_eq_true rfl) rfl rfl rfl
    obtain ⟨x8, ex8, hf⟩ := ob hf
    obtain rfl := Option.some.inj hf
    exact sp_iretZ (pc := 107) dX7_doGroup_107 rfl ex8 (hQ _)
  rw [if_neg c5] at hf
  by_cases c9 : (v1 / 10000) = 3
  · rw [if_pos c9] at hf
    refine sp_tableIn (pc := 35) (off := 73) (tgt := 108) dX7_doGroup_35 (by rw [c9]; decide) (by rw [c9]; decide) (by rw [c9]; rfl) (by decide) ?_
    refine sp_iload_n (pc := 108) dX7_doGroup_108 5 rfl ?_
    refine sp_sipush (pc := 109) (v := 10000) dX7_doGroup_109 (by decide) ?_
    refine sp_iremJ (pc := 112) dX7_doGroup_112 (by decide) ?_
    refine sp_if_ne (pc := 113) (tgt := 130) dX7_doGroup_113 (by decide) (fun c10 => ?_) (fun c10 => ?_)
    · rw [if_neg c10] at hf
      refine sp_iconst (pc := 130) (v := 0) dX7_doGroup_130 (by decide) ?_
      obtain rfl := Option.some.inj hf
      exact sp_ireturn (pc := 131) dX7_doGroup_131 rfl rfl (hQ _)
    · rw [if_pos c10] at hf
      refine sp_aload_n (pc := 116) dX7_doGroup_116 4 rfl ?_
      obtain ⟨x11, ex11, hf⟩ := ob hf
      refine sp_gR (pc := 117) fl_RX7_28 dX7_doGroup_117 ex11 ?_
      obtain ⟨y12, ey12, hf⟩ := ob hf
      obtain ⟨fsy12, hoy12⟩ := o_X3_tryFlush ey12
      refine sp_callVi (pc := 120) (z := M_X3_tryFlush) (As := []) (b := x11) (bc2 := bc) (bs2 := bs) (m_X3_tryFlush (Q := _) (fun sz => ⟨y12.1, rfl, ?_⟩) ey12) rfl dX7_doGroup_120 hoy12 rfl rfl ck_X7_doGroup_314 (Nat.le_of_ble_eq_true rfl) rfl rfl rfl
      refine sp_if_eq (pc := 123) (tgt := 130) dX7_doGroup_123 (by decide) (fun c13 => ?_) (fun c13 => ?_)
      · rw [if_pos c13] at hf
        refine sp_iconst (pc := 130) (v := 0) dX7_doGroup_130 (by decide) ?_
        obtain rfl := Option.some.inj hf
        exact sp_ireturn (pc := 131) dX7_doGroup_131 rfl rfl (hQ _)
      · rw [if_neg c13] at hf
        refine sp_iconst (pc := 126) (v := 1) dX7_doGroup_126 (by decide) ?_
        refine sp_goto (pc := 127) (tgt := 131) dX7_doGroup_127 (by decide) ?_
        obtain rfl := Option.some.inj hf
        exact sp_ireturn (pc := 131) dX7_doGroup_131 rfl rfl (hQ _)
  rw [if_neg c9] at hf
  by_cases c14 : (v1 / 10000) = 4
  · rw [if_pos c14] at hf
    refine sp_tableIn (pc := 35) (off := 97) (tgt := 132) dX7_doGroup_35 (by rw [c14]; decide) (by rw [c14]; decide) (by rw [c14]; rfl) (by decide) ?_
    refine sp_iload_n (pc := 132) dX7_doGroup_132 2 rfl ?_
    refine sp_if_ne (pc := 133) (tgt := 151) dX7_doGroup_133 (by decide) (fun c15 => ?_) (fun c15 => ?_)
    · rw [if_neg c15] at hf
      refine sp_iconst (pc := 151) (v := 0) dX7_doGroup_151 (by decide) ?_
      obtain rfl := Option.some.inj hf
      exact sp_ireturn (pc := 152) dX7_doGroup_152 rfl rfl (hQ _)
    · rw [if_pos c15] at hf
      refine sp_aload_n (pc := 136) dX7_doGroup_136 4 rfl ?_
      obtain ⟨x16, ex16, hf⟩ := ob hf
      refine sp_gR (pc := 137) fl_RX7_28 dX7_doGroup_137 ex16 ?_
      refine sp_iload_n (pc := 140) dX7_doGroup_140 3 rfl ?_
      obtain ⟨y17, ey17, hf⟩ := ob hf
      obtain ⟨fsy17, hoy17⟩ := o_X3_tryMerge ey17
      refine sp_callVi (pc := 141) (z := M_X3_tryMerge) (As := [.int (jrem (v1 / 1000) 10)]) (b := x16) (bc2 := bc) (bs2 := bs) (m_X3_tryMerge (Q := _) (fun sz => ⟨y17.1, rfl, ?_⟩) ey17) rfl dX7_doGroup_141 hoy17 rfl rfl ck_X7_doGroup_317 (Nat.le_of_ble_eq_true rfl) rfl rfl rfl
      refine sp_if_eq (pc := 144) (tgt := 151) dX7_doGroup_144 (by decide) (fun c18 => ?_) (fun c18 => ?_)
      · rw [if_pos c18] at hf
        refine sp_iconst (pc := 151) (v := 0) dX7_doGroup_151 (by decide) ?_
        obtain rfl := Option.some.inj hf
        exact sp_ireturn (pc := 152) dX7_doGroup_152 rfl rfl (hQ _)
      · rw [if_neg c18] at hf
        refine sp_iconst (pc := 147) (v := 1) dX7_doGroup_147 (by decide) ?_
        refine sp_goto (pc := 148) (tgt := 152) dX7_doGroup_148 (by decide) ?_
        obtain rfl := Option.some.inj hf
        exact sp_ireturn (pc := 152) dX7_doGroup_152 rfl rfl (hQ _)
  rw [if_neg c14] at hf
  by_cases c19 : (v1 / 10000) = 5
  · rw [if_pos c19] at hf
    refine sp_tableIn (pc := 35) (off := 118) (tgt := 153) dX7_doGroup_35 (by rw [c19]; decide) (by rw [c19]; decide) (by rw [c19]; rfl) (by decide) ?_
    refine sp_iload_n (pc := 153) dX7_doGroup_153 5 rfl ?_
    refine sp_sipush (pc := 154) (v := 10000) dX7_doGroup_154 (by decide) ?_
    refine sp_iremJ (pc := 157) dX7_doGroup_157 (by decide) ?_
    refine sp_if_ne (pc := 158) (tgt := 175) dX7_doGroup_158 (by decide) (fun c20 => ?_) (fun c20 => ?_)
    · rw [if_neg c20] at hf
      refine sp_iconst (pc := 175) (v := 0) dX7_doGroup_175 (by decide) ?_
      obtain rfl := Option.some.inj hf
      exact sp_ireturn (pc := 176) dX7_doGroup_176 rfl rfl (hQ _)
    · rw [if_pos c20] at hf
      refine sp_aload_n (pc := 161) dX7_doGroup_161 4 rfl ?_
      obtain ⟨x21, ex21, hf⟩ := ob hf
      refine sp_gR (pc := 162) fl_RX7_28 dX7_doGroup_162 ex21 ?_
      obtain ⟨y22, ey22, hf⟩ := ob hf
      obtain ⟨fsy22, hoy22⟩ := o_X3_tryOpen ey22
      refine sp_callVi (pc := 165) (z := M_X3_tryOpen) (As := []) (b := x21) (bc2 := bc) (bs2 := bs) (m_X3_tryOpen (Q := _) (fun sz => ⟨y22.1, rfl, ?_⟩) ey22) rfl dX7_doGroup_165 hoy22 rfl rfl ck_X7_doGroup_320 (Nat.le_of_ble_eq_true rfl) rfl rfl rfl
      refine sp_if_eq (pc := 168) (tgt := 175) dX7_doGroup_168 (by decide) (fun c23 => ?_) (fun c23 => ?_)
      · rw [if_pos c23] at hf
        refine sp_iconst (pc := 175) (v := 0) dX7_doGroup_175 (by decide) ?_
        obtain rfl := Option.some.inj hf
        exact sp_ireturn (pc := 176) dX7_doGroup_176 rfl rfl (hQ _)
      · rw [if_neg c23] at hf
        refine sp_iconst (pc := 171) (v := 1) dX7_doGroup_171 (by decide) ?_
        refine sp_goto (pc := 172) (tgt := 176) dX7_doGroup_172 (by decide) ?_
        obtain rfl := Option.some.inj hf
        exact sp_ireturn (pc := 176) dX7_doGroup_176 rfl rfl (hQ _)
  rw [if_neg c19] at hf
  by_cases c24 : (v1 / 10000) = 6
  · rw [if_pos c24] at hf
    refine sp_tableIn (pc := 35) (off := 142) (tgt := 177) dX7_doGroup_35 (by rw [c24]; decide) (by rw [c24]; decide) (by rw [c24]; rfl) (by decide) ?_
    refine sp_iload_n (pc := 177) dX7_doGroup_177 2 rfl ?_
    refine sp_if_ne (pc := 178) (tgt := 196) dX7_doGroup_178 (by decide) (fun c25 => ?_) (fun c25 => ?_)
    · rw [if_neg c25] at hf
      refine sp_iconst (pc := 196) (v := 0) dX7_doGroup_196 (by decide) ?_
      obtain rfl := Option.some.inj hf
      exact sp_ireturn (pc := 197) dX7_doGroup_197 rfl rfl (hQ _)
    · rw [if_pos c25] at hf
      refine sp_aload_n (pc := 181) dX7_doGroup_181 4 rfl ?_
      obtain ⟨x26, ex26, hf⟩ := ob hf
      refine sp_gR (pc := 182) fl_RX7_28 dX7_doGroup_182 ex26 ?_
      refine sp_iload_n (pc := 185) dX7_doGroup_185 3 rfl ?_
      obtain ⟨y27, ey27, hf⟩ := ob hf
      obtain ⟨fsy27, hoy27⟩ := o_X3_tryClose ey27
      refine sp_callVi (pc := 186) (z := M_X3_tryClose) (As := [.int (jrem (v1 / 1000) 10)]) (b := x26) (bc2 := bc) (bs2 := bs) (m_X3_tryClose (Q := _) (fun sz => ⟨y27.1, rfl, ?_⟩) ey27) rfl dX7_doGroup_186 hoy27 rfl rfl ck_X7_doGroup_323 (Nat.le_of_ble_eq_true rfl) rfl rfl rfl
      refine sp_if_eq (pc := 189) (tgt := 196) dX7_doGroup_189 (by decide) (fun c28 => ?_) (fun c28 => ?_)
      · rw [if_pos c28] at hf
        refine sp_iconst (pc := 196) (v := 0) dX7_doGroup_196 (by decide) ?_
        obtain rfl := Option.some.inj hf
        exact sp_ireturn (pc := 197) dX7_doGroup_197 rfl rfl (hQ _)
      · rw [if_neg c28] at hf
        refine sp_iconst (pc := 192) (v := 1) dX7_doGroup_192 (by decide) ?_
        refine sp_goto (pc := 193) (tgt := 197) dX7_doGroup_193 (by decide) ?_
        obtain rfl := Option.some.inj hf
        exact sp_ireturn (pc := 197) dX7_doGroup_197 rfl rfl (hQ _)
  rw [if_neg c24] at hf
  by_cases c29 : (v1 / 10000) = 7
  · rw [if_pos c29] at hf
    refine sp_tableIn (pc := 35) (off := 163) (tgt := 198) dX7_doGroup_35 (by rw [c29]; decide) (by rw [c29]; decide) (by rw [c29]; rfl) (by decide) ?_
    refine sp_aload_n (pc := 198) dX7_doGroup_198 4 rfl ?_
    obtain ⟨x30, ex30, hf⟩ := ob hf
    refine sp_gR (pc := 199) fl_RX7_28 dX7_doGroup_199 ex30 ?_
    refine sp_iload (pc := 202) dX7_doGroup_202 1 rfl ?_
    refine sp_aload_n (pc := 204) dX7_doGroup_204 4 rfl ?_
    obtain ⟨x31, ex31, hf⟩ := ob hf
    refine sp_gR (pc := 205) fl_RX7_28 dX7_doGroup_205 ex31 ?_
    obtain ⟨y32, ey32, hf⟩ := ob hf
    obtain ⟨fsy32, hoy32⟩ := o_X3_latest ey32
    refine sp_callVi (pc := 208) (z := M_X3_latest) (As := []) (b := x31) (bc2 := bc) (bs2 := bs) (m_X3_latest (Q := _) (fun sz => ⟨y32, rfl, ?_⟩) ey32) rfl dX7_doGroup_208 hoy32 rfl rfl ck_X7_doGroup_98 (Nat.le_of_ble_eq_true rfl) rfl rfl rfl
    obtain ⟨y33, ey33, hf⟩ := ob hf
    obtain ⟨fsy33, hoy33⟩ := o_X3_valueFor ey33
    refine sp_callVi (pc := 211) (z := M_X3_valueFor) (As := [.int (jrem (v1 / 100) 100), .int y32]) (b := x30) (bc2 := bc) (bs2 := bs) (m_X3_valueFor (Q := _) (fun sz => ⟨y33, rfl, ?_⟩) ey33) rfl dX7_doGroup_211 hoy33 rfl rfl ck_X7_doGroup_148 (Nat.le_of_ble_eq_true rfl) rfl rfl rfl
    refine sp_iload (pc := 214) dX7_doGroup_214 0 rfl ?_
    refine sp_icmp_ne (pc := 216) (tgt := 223) dX7_doGroup_216 (by decide) (fun c34 => ?_) (fun c34 => ?_)
    · rw [if_neg c34] at hf
      refine sp_iconst (pc := 223) (v := 0) dX7_doGroup_223 (by decide) ?_
      obtain rfl := Option.some.inj hf
      exact sp_ireturn (pc := 224) dX7_doGroup_224 rfl rfl (hQ _)
    · rw [if_pos c34] at hf
      refine sp_iconst (pc := 219) (v := 1) dX7_doGroup_219 (by decide) ?_
      refine sp_goto (pc := 220) (tgt := 224) dX7_doGroup_220 (by decide) ?_
      obtain rfl := Option.some.inj hf
      exact sp_ireturn (pc := 224) dX7_doGroup_224 rfl rfl (hQ _)
  rw [if_neg c29] at hf
  by_cases c35 : (v1 / 10000) = 8
  · rw [if_pos c35] at hf
    refine sp_tableIn (pc := 35) (off := 190) (tgt := 225) dX7_doGroup_35 (by rw [c35]; decide) (by rw [c35]; decide) (by rw [c35]; rfl) (by decide) ?_
    refine sp_iload (pc := 225) dX7_doGroup_225 1 rfl ?_
    refine sp_if_ne (pc := 227) (tgt := 246) dX7_doGroup_227 (by decide) (fun c36 => ?_) (fun c36 => ?_)
    · rw [if_neg c36] at hf
      refine sp_iconst (pc := 246) (v := 0) dX7_doGroup_246 (by decide) ?_
      obtain rfl := Option.some.inj hf
      exact sp_ireturn (pc := 247) dX7_doGroup_247 rfl rfl (hQ _)
    · rw [if_pos c36] at hf
      refine sp_aload_n (pc := 230) dX7_doGroup_230 4 rfl ?_
      obtain ⟨x37, ex37, hf⟩ := ob hf
      refine sp_gR (pc := 231) fl_RX7_28 dX7_doGroup_231 ex37 ?_
      obtain ⟨y38, ey38, hf⟩ := ob hf
      obtain ⟨fsy38, hoy38⟩ := o_X3_size ey38
      refine sp_callVi (pc := 234) (z := M_X3_size) (As := []) (b := x37) (bc2 := bc) (bs2 := bs) (m_X3_size (Q := _) (fun sz => ⟨y38, rfl, ?_⟩) ey38) rfl dX7_doGroup_234 hoy38 rfl rfl ck_X7_doGroup_111 (Nat.le_of_ble_eq_true rfl) rfl rfl rfl
      refine sp_iload (pc := 237) dX7_doGroup_237 0 rfl ?_
      refine sp_icmp_gt (pc := 239) (tgt := 246) dX7_doGroup_239 (by decide) (fun c39 => ?_) (fun c39 => ?_)
      · rw [if_pos c39] at hf
        refine sp_iconst (pc := 246) (v := 0) dX7_doGroup_246 (by decide) ?_
        obtain rfl := Option.some.inj hf
        exact sp_ireturn (pc := 247) dX7_doGroup_247 rfl rfl (hQ _)
      · rw [if_neg c39] at hf
        refine sp_iconst (pc := 242) (v := 1) dX7_doGroup_242 (by decide) ?_
        refine sp_goto (pc := 243) (tgt := 247) dX7_doGroup_243 (by decide) ?_
        obtain rfl := Option.some.inj hf
        exact sp_ireturn (pc := 247) dX7_doGroup_247 rfl rfl (hQ _)
  rw [if_neg c35] at hf
  by_cases c40 : (v1 / 10000) = 9
  · rw [if_pos c40] at hf
    refine sp_tableIn (pc := 35) (off := 213) (tgt := 248) dX7_doGroup_35 (by rw [c40]; decide) (by rw [c40]; decide) (by rw [c40]; rfl) (by decide) ?_
    refine sp_iload_n (pc := 248) dX7_doGroup_248 5 rfl ?_
    refine sp_bipush (pc := 249) (v := 10) dX7_doGroup_249 (by decide) ?_
    refine sp_iremJ (pc := 251) dX7_doGroup_251 (by decide) ?_
    refine sp_if_ne (pc := 252) (tgt := 292) dX7_doGroup_252 (by decide) (fun c41 => ?_) (fun c41 => ?_)
    · rw [if_neg c41] at hf
      refine sp_iconst (pc := 292) (v := 0) dX7_doGroup_292 (by decide) ?_
      obtain rfl := Option.some.inj hf
      exact sp_ireturn (pc := 293) dX7_doGroup_293 rfl rfl (hQ _)
    · rw [if_pos c41] at hf
      refine sp_aload_n (pc := 255) dX7_doGroup_255 4 rfl ?_
      obtain ⟨x42, ex42, hf⟩ := ob hf
      refine sp_gR (pc := 256) fl_RX7_28 dX7_doGroup_256 ex42 ?_
      refine sp_iload_n (pc := 259) dX7_doGroup_259 3 rfl ?_
      obtain ⟨y43, ey43, hf⟩ := ob hf
      obtain ⟨fsy43, hoy43⟩ := o_X3_isEye ey43
      refine sp_callVi (pc := 260) (z := M_X3_isEye) (As := [.int (jrem (v1 / 1000) 10)]) (b := x42) (bc2 := bc) (bs2 := bs) (m_X3_isEye (Q := _) (fun sz => ⟨y43, rfl, ?_⟩) ey43) rfl dX7_doGroup_260 hoy43 rfl rfl ck_X7_doGroup_187 (Nat.le_of_ble_eq_true rfl) rfl rfl rfl
      refine sp_if_eq (pc := 263) (tgt := 292) dX7_doGroup_263 (by decide) (fun c44 => ?_) (fun c44 => ?_)
      · rw [if_pos c44] at hf
        refine sp_iconst (pc := 292) (v := 0) dX7_doGroup_292 (by decide) ?_
        obtain rfl := Option.some.inj hf
        exact sp_ireturn (pc := 293) dX7_doGroup_293 rfl rfl (hQ _)
      · rw [if_neg c44] at hf
        refine sp_aload_n (pc := 266) dX7_doGroup_266 4 rfl ?_
        obtain ⟨x45, ex45, hf⟩ := ob hf
        refine sp_gR (pc := 267) fl_RX7_28 dX7_doGroup_267 ex45 ?_
        refine sp_iload_n (pc := 270) dX7_doGroup_270 2 rfl ?_
        refine sp_bipush (pc := 271) (v := 10) dX7_doGroup_271 (by decide) ?_
        refine sp_idiv (pc := 273) dX7_doGroup_273 (by decide) ?_
        refine sp_aload_n (pc := 274) dX7_doGroup_274 4 rfl ?_
        obtain ⟨x46, ex46, hf⟩ := ob hf
        refine sp_gR (pc := 275) fl_RX7_28 dX7_doGroup_275 ex46 ?_
        refine sp_iload_n (pc := 278) dX7_doGroup_278 3 rfl ?_
        obtain ⟨y47, ey47, hf⟩ := ob hf
        obtain ⟨fsy47, hoy47⟩ := o_X3_limitOf ey47
        refine sp_callVi (pc := 279) (z := M_X3_limitOf) (As := [.int (jrem (v1 / 1000) 10)]) (b := x46) (bc2 := bc) (bs2 := bs) (m_X3_limitOf (Q := _) (fun sz => ⟨y47, rfl, ?_⟩) ey47) rfl dX7_doGroup_279 hoy47 rfl rfl ck_X7_doGroup_145 (Nat.le_of_ble_eq_true rfl) rfl rfl rfl
        obtain ⟨y48, ey48, hf⟩ := ob hf
        obtain ⟨fsy48, hoy48⟩ := o_X3_valueFor ey48
        refine sp_callVi (pc := 282) (z := M_X3_valueFor) (As := [.int ((jrem v1 1000) / 10), .int y47]) (b := x45) (bc2 := bc) (bs2 := bs) (m_X3_valueFor (Q := _) (fun sz => ⟨y48, rfl, ?_⟩) ey48) rfl dX7_doGroup_282 hoy48 rfl rfl ck_X7_doGroup_148 (Nat.le_of_ble_eq_true rfl) rfl rfl rfl
        refine sp_if_eq (pc := 285) (tgt := 292) dX7_doGroup_285 (by decide) (fun c49 => ?_) (fun c49 => ?_)
        · rw [if_pos c49] at hf
          refine sp_iconst (pc := 292) (v := 0) dX7_doGroup_292 (by decide) ?_
          obtain rfl := Option.some.inj hf
          exact sp_ireturn (pc := 293) dX7_doGroup_293 rfl rfl (hQ _)
        · rw [if_neg c49] at hf
          refine sp_iconst (pc := 288) (v := 1) dX7_doGroup_288 (by decide) ?_
          refine sp_goto (pc := 289) (tgt := 293) dX7_doGroup_289 (by decide) ?_
          obtain rfl := Option.some.inj hf
          exact sp_ireturn (pc := 293) dX7_doGroup_293 rfl rfl (hQ _)
  rw [if_neg c40] at hf
  refine sp_tableOut (pc := 35) (tgt := 294) dX7_doGroup_35 (tbl_out (fun i h1 h2 he => ?_)) (by decide) ?_
  · rcases (show i = 1 ∨ i = 2 ∨ i = 3 ∨ i = 4 ∨ i = 5 ∨ i = 6 ∨ i = 7 ∨ i = 8 ∨ i = 9 by omega) with rfl | rfl | rfl | rfl | rfl | rfl | rfl | rfl | rfl
    · exact c1 (Int32.toInt_inj.mp (he.trans (by decide)))
    · exact c5 (Int32.toInt_inj.mp (he.trans (by decide)))
    · exact c9 (Int32.toInt_inj.mp (he.trans (by decide)))
    · exact c14 (Int32.toInt_inj.mp (he.trans (by decide)))
    · exact c19 (Int32.toInt_inj.mp (he.trans (by decide)))
    · exact c24 (Int32.toInt_inj.mp (he.trans (by decide)))
    · exact c29 (Int32.toInt_inj.mp (he.trans (by decide)))
    · exact c35 (Int32.toInt_inj.mp (he.trans (by decide)))
    · exact c40 (Int32.toInt_inj.mp (he.trans (by decide)))
  refine sp_iconst (pc := 294) (v := 0) dX7_doGroup_294 (by decide) ?_
  obtain rfl := Option.some.inj hf
  exact sp_ireturn (pc := 295) dX7_doGroup_295 rfl rfl (hQ _)

theorem o_X7_doGroup {h : HP} {v0 : Nat} {v1 : Int32} {res : Int32 × HP} (hf : f_X7_doGroup h v0 v1 = some res) : ∃ fs, h v0 = some (.inr (7, fs)) := by
  obtain ⟨u, eu, -⟩ := ob hf
  exact kO_spec eu

theorem m_X7_doGroup {l : Launch} {Q : PST} {h : HP} {v0 : Nat} {v1 : Int32} {sz : Nat} {res : Int32 × HP} (hQ : ∀ sz', Q (.inl (some (.int res.1))) res.2 sz') (hf : f_X7_doGroup h v0 v1 = some res) : MM l M_X7_doGroup [.ref v0, .int v1] h sz Q := by
  obtain ⟨u, eu, hf⟩ := ob hf
  exact MM_of wok_X7_doGroup (by decide +kernel) (Nat.le_of_ble_eq_true rfl) ((w_X7_doGroup_0 hQ hf))

theorem dX7_runScript_0 : decode (mB M_X7_runScript) 0 = .ok (.iload_n 1, 1) := by decide +kernel
theorem dX7_runScript_1 : decode (mB M_X7_runScript) 1 = .ok (.iconst 1, 1) := by decide +kernel
theorem dX7_runScript_2 : decode (mB M_X7_runScript) 2 = .ok (.if_icmp .lt 8, 3) := by decide +kernel
theorem dX7_runScript_5 : decode (mB M_X7_runScript) 5 = .ok (.iload_n 1, 1) := by decide +kernel
theorem dX7_runScript_6 : decode (mB M_X7_runScript) 6 = .ok (.iconst 3, 1) := by decide +kernel
theorem dX7_runScript_7 : decode (mB M_X7_runScript) 7 = .ok (.if_icmp .le 14, 3) := by decide +kernel
theorem dX7_runScript_10 : decode (mB M_X7_runScript) 10 = .ok (.new 55, 3) := by decide +kernel
theorem dX7_runScript_13 : decode (mB M_X7_runScript) 13 = .ok (.dup, 1) := by decide +kernel
theorem dX7_runScript_14 : decode (mB M_X7_runScript) 14 = .ok (.ldc_w 276, 3) := by decide +kernel
theorem dX7_runScript_17 : decode (mB M_X7_runScript) 17 = .ok (.invokespecial 59, 3) := by decide +kernel
theorem dX7_runScript_20 : decode (mB M_X7_runScript) 20 = .ok (.athrow, 1) := by decide +kernel
theorem dX7_runScript_21 : decode (mB M_X7_runScript) 21 = .ok (.lload_n 2, 1) := by decide +kernel
theorem dX7_runScript_22 : decode (mB M_X7_runScript) 22 = .ok (.lconst 0, 1) := by decide +kernel
theorem dX7_runScript_23 : decode (mB M_X7_runScript) 23 = .ok (.lcmp, 1) := by decide +kernel
theorem dX7_runScript_24 : decode (mB M_X7_runScript) 24 = .ok (.ifCond .lt 13, 3) := by decide +kernel
theorem dX7_runScript_27 : decode (mB M_X7_runScript) 27 = .ok (.iload_n 1, 1) := by decide +kernel
theorem dX7_runScript_28 : decode (mB M_X7_runScript) 28 = .ok (.lload_n 2, 1) := by decide +kernel
theorem dX7_runScript_29 : decode (mB M_X7_runScript) 29 = .ok (.invokestatic 278, 3) := by decide +kernel
theorem dX7_runScript_32 : decode (mB M_X7_runScript) 32 = .ok (.lconst 0, 1) := by decide +kernel
theorem dX7_runScript_33 : decode (mB M_X7_runScript) 33 = .ok (.lcmp, 1) := by decide +kernel
theorem dX7_runScript_34 : decode (mB M_X7_runScript) 34 = .ok (.ifCond .le 14, 3) := by decide +kernel
theorem dX7_runScript_37 : decode (mB M_X7_runScript) 37 = .ok (.new 55, 3) := by decide +kernel
theorem dX7_runScript_40 : decode (mB M_X7_runScript) 40 = .ok (.dup, 1) := by decide +kernel
theorem dX7_runScript_41 : decode (mB M_X7_runScript) 41 = .ok (.ldc_w 282, 3) := by decide +kernel
theorem dX7_runScript_44 : decode (mB M_X7_runScript) 44 = .ok (.invokespecial 59, 3) := by decide +kernel
theorem dX7_runScript_47 : decode (mB M_X7_runScript) 47 = .ok (.athrow, 1) := by decide +kernel
theorem dX7_runScript_48 : decode (mB M_X7_runScript) 48 = .ok (.aload_n 0, 1) := by decide +kernel
theorem dX7_runScript_49 : decode (mB M_X7_runScript) 49 = .ok (.getfield 28, 3) := by decide +kernel
theorem dX7_runScript_52 : decode (mB M_X7_runScript) 52 = .ok (.aload_n 0, 1) := by decide +kernel
theorem dX7_runScript_53 : decode (mB M_X7_runScript) 53 = .ok (.getfield 24, 3) := by decide +kernel
theorem dX7_runScript_56 : decode (mB M_X7_runScript) 56 = .ok (.invokevirtual 270, 3) := by decide +kernel
theorem dX7_runScript_59 : decode (mB M_X7_runScript) 59 = .ok (.iconst 0, 1) := by decide +kernel
theorem dX7_runScript_60 : decode (mB M_X7_runScript) 60 = .ok (.istore 4, 2) := by decide +kernel
theorem dX7_runScript_62 : decode (mB M_X7_runScript) 62 = .ok (.iload 4, 2) := by decide +kernel
theorem dX7_runScript_64 : decode (mB M_X7_runScript) 64 = .ok (.iload_n 1, 1) := by decide +kernel
theorem dX7_runScript_65 : decode (mB M_X7_runScript) 65 = .ok (.if_icmp .ge 38, 3) := by decide +kernel
theorem dX7_runScript_68 : decode (mB M_X7_runScript) 68 = .ok (.iload_n 1, 1) := by decide +kernel
theorem dX7_runScript_69 : decode (mB M_X7_runScript) 69 = .ok (.iconst 1, 1) := by decide +kernel
theorem dX7_runScript_70 : decode (mB M_X7_runScript) 70 = .ok (.isub, 1) := by decide +kernel
theorem dX7_runScript_71 : decode (mB M_X7_runScript) 71 = .ok (.iload 4, 2) := by decide +kernel
theorem dX7_runScript_73 : decode (mB M_X7_runScript) 73 = .ok (.isub, 1) := by decide +kernel
theorem dX7_runScript_74 : decode (mB M_X7_runScript) 74 = .ok (.lload_n 2, 1) := by decide +kernel
theorem dX7_runScript_75 : decode (mB M_X7_runScript) 75 = .ok (.invokestatic 278, 3) := by decide +kernel
theorem dX7_runScript_78 : decode (mB M_X7_runScript) 78 = .ok (.ldc2_w 284, 3) := by decide +kernel
theorem dX7_runScript_81 : decode (mB M_X7_runScript) 81 = .ok (.lrem, 1) := by decide +kernel
theorem dX7_runScript_82 : decode (mB M_X7_runScript) 82 = .ok (.l2i, 1) := by decide +kernel
theorem dX7_runScript_83 : decode (mB M_X7_runScript) 83 = .ok (.istore 5, 2) := by decide +kernel
theorem dX7_runScript_85 : decode (mB M_X7_runScript) 85 = .ok (.aload_n 0, 1) := by decide +kernel
theorem dX7_runScript_86 : decode (mB M_X7_runScript) 86 = .ok (.iload 5, 2) := by decide +kernel
theorem dX7_runScript_88 : decode (mB M_X7_runScript) 88 = .ok (.invokevirtual 286, 3) := by decide +kernel
theorem dX7_runScript_91 : decode (mB M_X7_runScript) 91 = .ok (.ifCond .ne 6, 3) := by decide +kernel
theorem dX7_runScript_94 : decode (mB M_X7_runScript) 94 = .ok (.iload 4, 2) := by decide +kernel
theorem dX7_runScript_96 : decode (mB M_X7_runScript) 96 = .ok (.ireturn, 1) := by decide +kernel
theorem dX7_runScript_97 : decode (mB M_X7_runScript) 97 = .ok (.iinc 4 1, 3) := by decide +kernel
theorem dX7_runScript_100 : decode (mB M_X7_runScript) 100 = .ok (.goto (-38), 3) := by decide +kernel
theorem dX7_runScript_103 : decode (mB M_X7_runScript) 103 = .ok (.iconst (-1), 1) := by decide +kernel
theorem dX7_runScript_104 : decode (mB M_X7_runScript) 104 = .ok (.ireturn, 1) := by decide +kernel
def c_X7_runScript_62 (v0 : Nat) (v1 : Int32) (v2 : Int64) (k62 : HP → Int32 → Option ((Int32 ⊕ String) × HP)) (h : HP) (v4 : Int32) : Option ((Int32 ⊕ String) × HP) :=
  if v1 ≤ v4 then some (.inl (-1), h) else (f_X7_withoutLast h ((v1 - 1) - v4) v2).bind fun y2 => (f_X7_doGroup h v0 (Int64.toInt32 (jlrem y2 100000))).bind fun y3 => if y3.1 = 0 then some (.inl v4, y3.2) else k62 y3.2 (v4 + 1)
def b_X7_runScript_62 (v0 : Nat) (v1 : Int32) (v2 : Int64) : Nat → HP → Int32 → Option ((Int32 ⊕ String) × HP)
  | 0, _, _ => none
  | n + 1, h, v4 => c_X7_runScript_62 v0 v1 v2 (b_X7_runScript_62 v0 v1 v2 n) h v4
def b_X7_runScript_37 (h : HP) : Option ((Int32 ⊕ String) × HP) :=
  some (.inr "java/lang/IllegalArgumentException", h)
def b_X7_runScript_10 (h : HP) : Option ((Int32 ⊕ String) × HP) :=
  some (.inr "java/lang/IllegalArgumentException", h)
def b_X7_runScript_0 (v0 : Nat) (v1 : Int32) (v2 : Int64) (h : HP) : Option ((Int32 ⊕ String) × HP) :=
  if v1 < 1 then b_X7_runScript_10 h else if v1 ≤ 3 then if (lg_cmp v2 0) < 0 then b_X7_runScript_37 h else (f_X7_withoutLast h v1 v2).bind fun y4 => if (lg_cmp y4 0) ≤ 0 then (gR 7 2 h v0).bind fun x6 => (gR 7 1 h v0).bind fun x7 => (f_X3_become h x6 x7).bind fun y8 => b_X7_runScript_62 v0 v1 v2 FU y8 0 else b_X7_runScript_37 h else b_X7_runScript_10 h
def f_X7_runScript (h : HP) (v0 : Nat) (v1 : Int32) (v2 : Int64) : Option ((Int32 ⊕ String) × HP) := (kO 7 h v0).bind fun _ => b_X7_runScript_0 v0 v1 v2 h
theorem wc_X7_runScript_62 {l : Launch} {X : SCR} {Q : PST} {bc bs : Nat} {res : (Int32 ⊕ String) × HP} (hQ : ∀ sz', Q (outT res.1) res.2 sz') (hlt : l.stackTraces = false) (hX2 : X.2 = some []) (hbc : 1 ≤ bc) (hbs : 6 ≤ bs) {v0 : Nat} {v1 : Int32} {v2 : Int64} {k62 : HP → Int32 → Option ((Int32 ⊕ String) × HP)} (hk62 : ∀ (h : HP) (v4 : Int32) (sz : Nat), k62 h v4 = some res → SP l X M_X7_runScript 62 [(0, .ref v0), (1, .int v1), (2, .long v2), (4, .int v4)] [] h sz bc bs Q) {h : HP} {v4 : Int32} {sz : Nat} (hf : c_X7_runScript_62 v0 v1 v2 k62 h v4 = some res) : SP l X M_X7_runScript 62 [(0, .ref v0), (1, .int v1), (2, .long v2), (4, .int v4)] [] h sz bc bs Q := by
  rw [c_X7_runScript_62] at hf
  refine sp_iload (pc := 62) dX7_runScript_62 3 rfl ?_
  refine sp_iload_n (pc := 64) dX7_runScript_64 1 rfl ?_
  refine sp_icmp_ge (pc := 65) (tgt := 103) dX7_runScript_65 (by decide) (fun c1 => ?_) (fun c1 => ?_)
  · rw [if_pos c1] at hf
    refine sp_iconst (pc := 103) (v := (-1)) dX7_runScript_103 (by decide) ?_
    obtain rfl := Option.some.inj hf
    exact sp_ireturn (pc := 104) dX7_runScript_104 rfl rfl (hQ _)
  · rw [if_neg c1] at hf
    refine sp_iload_n (pc := 68) dX7_runScript_68 1 rfl ?_
    refine sp_iconst (pc := 69) (v := 1) dX7_runScript_69 (by decide) ?_
    refine sp_isub (pc := 70) dX7_runScript_70 ?_
    refine sp_iload (pc := 71) dX7_runScript_71 3 rfl ?_
    refine sp_isub (pc := 73) dX7_runScript_73 ?_
    refine sp_lload_n (pc := 74) dX7_runScript_74 2 rfl ?_
    obtain ⟨y2, ey2, hf⟩ := ob hf
    refine sp_callSl (pc := 75) (z := M_X7_withoutLast) (As := [.int ((v1 - 1) - v4), .long v2]) (bc2 := bc) (bs2 := bs) (m_X7_withoutLast (Q := _) (fun sz => ⟨y2, rfl, ?_⟩) ey2) rfl dX7_runScript_75 rfl ck_X7_runScript_278 (Nat.le_of_ble_eq_true rfl) rfl rfl rfl
    refine sp_ldc2 (pc := 78) dX7_runScript_78 bk_922 ?_
    refine sp_lremJ (pc := 81) dX7_runScript_81 (by decide) ?_
    refine sp_l2i (pc := 82) dX7_runScript_82 ?_
    refine sp_istore (pc := 83) (lv' := [(5, .int (Int64.toInt32 (jlrem y2 100000))), (0, .ref v0), (1, .int v1), (2, .long v2), (4, .int v4)]) dX7_runScript_83 (by decide) rfl ?_
    refine sp_aload_n (pc := 85) dX7_runScript_85 1 rfl ?_
    refine sp_iload (pc := 86) dX7_runScript_86 0 rfl ?_
    obtain ⟨y3, ey3, hf⟩ := ob hf
    obtain ⟨fsy3, hoy3⟩ := o_X7_doGroup ey3
    refine sp_callVi (pc := 88) (z := M_X7_doGroup) (As := [.int (Int64.toInt32 (jlrem y2 100000))]) (b := v0) (bc2 := bc) (bs2 := bs) (m_X7_doGroup (Q := _) (fun sz => ⟨y3.1, rfl, ?_⟩) ey3) rfl dX7_runScript_88 hoy3 rfl rfl ck_X7_runScript_286 (Nat.le_of_ble_eq_true rfl) rfl rfl rfl
    refine sp_if_ne (pc := 91) (tgt := 97) dX7_runScript_91 (by decide) (fun c4 => ?_) (fun c4 => ?_)
    · rw [if_neg c4] at hf
      refine sp_iinc (pc := 97) (v := v4 + 1) (lv' := [(4, .int (v4 + 1)), (5, .int (Int64.toInt32 (jlrem y2 100000))), (0, .ref v0), (1, .int v1), (2, .long v2)]) dX7_runScript_97 4 rfl rfl (by decide) rfl ?_
      refine sp_goto (pc := 100) (tgt := 62) dX7_runScript_100 (by decide) ?_
      exact sp_sub [2, 3, 4, 0] rfl (hk62 _ _ _ hf)
    · rw [if_pos c4] at hf
      refine sp_iload (pc := 94) dX7_runScript_94 4 rfl ?_
      obtain rfl := Option.some.inj hf
      exact sp_ireturn (pc := 96) dX7_runScript_96 rfl rfl (hQ _)

theorem w_X7_runScript_62 {l : Launch} {X : SCR} {Q : PST} {bc bs : Nat} {res : (Int32 ⊕ String) × HP} (hQ : ∀ sz', Q (outT res.1) res.2 sz') (hlt : l.stackTraces = false) (hX2 : X.2 = some []) (hbc : 1 ≤ bc) (hbs : 6 ≤ bs) {v0 : Nat} {v1 : Int32} {v2 : Int64} : ∀ (n : Nat) {h : HP} {v4 : Int32} {sz : Nat}, b_X7_runScript_62 v0 v1 v2 n h v4 = some res → SP l X M_X7_runScript 62 [(0, .ref v0), (1, .int v1), (2, .long v2), (4, .int v4)] [] h sz bc bs Q := by
  intro n
  induction n with
  | zero =>
    intro h v4 sz hf
    rw [b_X7_runScript_62] at hf
    cases hf
  | succ n ih =>
    intro h v4 sz hf
    rw [b_X7_runScript_62] at hf
    exact wc_X7_runScript_62 hQ hlt hX2 hbc hbs (fun h v4 sz hf => ih hf) hf

theorem w_X7_runScript_37 {l : Launch} {X : SCR} {Q : PST} {bc bs : Nat} {res : (Int32 ⊕ String) × HP} {h : HP} (hQ : ∀ sz', Q (outT res.1) res.2 sz') (hlt : l.stackTraces = false) (hX2 : X.2 = some []) (hbc : 1 ≤ bc) (hbs : 6 ≤ bs) {sz : Nat} (hf : b_X7_runScript_37 h  = some res) : SP l X M_X7_runScript 37 [] [] h sz bc bs Q := by
  rw [b_X7_runScript_37] at hf
  obtain rfl := Option.some.inj hf
  exact sp_throwSW (pc := 37) tr_RX7_55_282_59 hlt hX2 dX7_runScript_37 dX7_runScript_40 dX7_runScript_41 dX7_runScript_44 dX7_runScript_47 (by decide) (Nat.le_of_ble_eq_true rfl) hbc hbs hQ

theorem w_X7_runScript_10 {l : Launch} {X : SCR} {Q : PST} {bc bs : Nat} {res : (Int32 ⊕ String) × HP} {h : HP} (hQ : ∀ sz', Q (outT res.1) res.2 sz') (hlt : l.stackTraces = false) (hX2 : X.2 = some []) (hbc : 1 ≤ bc) (hbs : 6 ≤ bs) {sz : Nat} (hf : b_X7_runScript_10 h  = some res) : SP l X M_X7_runScript 10 [] [] h sz bc bs Q := by
  rw [b_X7_runScript_10] at hf
  obtain rfl := Option.some.inj hf
  exact sp_throwSW (pc := 10) tr_RX7_55_276_59 hlt hX2 dX7_runScript_10 dX7_runScript_13 dX7_runScript_14 dX7_runScript_17 dX7_runScript_20 (by decide) (Nat.le_of_ble_eq_true rfl) hbc hbs hQ

theorem w_X7_runScript_0 {l : Launch} {X : SCR} {Q : PST} {bc bs : Nat} {res : (Int32 ⊕ String) × HP} {h : HP} (hQ : ∀ sz', Q (outT res.1) res.2 sz') (hlt : l.stackTraces = false) (hX2 : X.2 = some []) (hbc : 1 ≤ bc) (hbs : 6 ≤ bs) {v0 : Nat} {v1 : Int32} {v2 : Int64} {sz : Nat} (hf : b_X7_runScript_0 v0 v1 v2 h  = some res) : SP l X M_X7_runScript 0 [(0, .ref v0), (1, .int v1), (2, .long v2)] [] h sz bc bs Q := by
  rw [b_X7_runScript_0] at hf
  refine sp_iload_n (pc := 0) dX7_runScript_0 1 rfl ?_
  refine sp_iconst (pc := 1) (v := 1) dX7_runScript_1 (by decide) ?_
  refine sp_icmp_lt (pc := 2) (tgt := 10) dX7_runScript_2 (by decide) (fun c1 => ?_) (fun c1 => ?_)
  · rw [if_pos c1] at hf
    exact sp_sub [] rfl (w_X7_runScript_10 hQ hlt hX2 hbc hbs hf)
  · rw [if_neg c1] at hf
    refine sp_iload_n (pc := 5) dX7_runScript_5 1 rfl ?_
    refine sp_iconst (pc := 6) (v := 3) dX7_runScript_6 (by decide) ?_
    refine sp_icmp_le (pc := 7) (tgt := 21) dX7_runScript_7 (by decide) (fun c2 => ?_) (fun c2 => ?_)
    · rw [if_pos c2] at hf
      refine sp_lload_n (pc := 21) dX7_runScript_21 2 rfl ?_
      refine sp_lconst (pc := 22) (v := 0) dX7_runScript_22 (by decide) ?_
      refine sp_lcmp (pc := 23) dX7_runScript_23 ?_
      refine sp_if_lt (pc := 24) (tgt := 37) dX7_runScript_24 (by decide) (fun c3 => ?_) (fun c3 => ?_)
      · rw [if_pos c3] at hf
        exact sp_sub [] rfl (w_X7_runScript_37 hQ hlt hX2 hbc hbs hf)
      · rw [if_neg c3] at hf
        refine sp_iload_n (pc := 27) dX7_runScript_27 1 rfl ?_
        refine sp_lload_n (pc := 28) dX7_runScript_28 2 rfl ?_
        obtain ⟨y4, ey4, hf⟩ := ob hf
        refine sp_callSl (pc := 29) (z := M_X7_withoutLast) (As := [.int v1, .long v2]) (bc2 := bc) (bs2 := bs) (m_X7_withoutLast (Q := _) (fun sz => ⟨y4, rfl, ?_⟩) ey4) rfl dX7_runScript_29 rfl ck_X7_runScript_278 (Nat.le_of_ble_eq_true rfl) rfl rfl rfl
        refine sp_lconst (pc := 32) (v := 0) dX7_runScript_32 (by decide) ?_
        refine sp_lcmp (pc := 33) dX7_runScript_33 ?_
        refine sp_if_le (pc := 34) (tgt := 48) dX7_runScript_34 (by decide) (fun c5 => ?_) (fun c5 => ?_)
        · rw [if_pos c5] at hf
          refine sp_aload_n (pc := 48) dX7_runScript_48 0 rfl ?_
          obtain ⟨x6, ex6, hf⟩ := ob hf
          refine sp_gR (pc := 49) fl_RX7_28 dX7_runScript_49 ex6 ?_
          refine sp_aload_n (pc := 52) dX7_runScript_52 0 rfl ?_
          obtain ⟨x7, ex7, hf⟩ := ob hf
          refine sp_gR (pc := 53) fl_RX7_24 dX7_runScript_53 ex7 ?_
          obtain ⟨y8, ey8, hf⟩ := ob hf
          obtain ⟨fsy8, hoy8⟩ := o_X3_become ey8
          refine sp_callVv (pc := 56) (z := M_X3_become) (As := [.ref x7]) (b := x6) (bc2 := bc) (bs2 := bs) (m_X3_become (Q := _) (fun sz => ⟨(), rfl, ?_⟩) ey8) rfl dX7_runScript_56 hoy8 rfl rfl ck_X7_runScript_270 (Nat.le_of_ble_eq_true rfl) rfl rfl rfl
          refine sp_iconst (pc := 59) (v := 0) dX7_runScript_59 (by decide) ?_
          refine sp_istore (pc := 60) (lv' := [(4, .int 0), (0, .ref v0), (1, .int v1), (2, .long v2)]) dX7_runScript_60 (by decide) rfl ?_
          exact sp_sub [1, 2, 3, 0] rfl (w_X7_runScript_62 hQ hlt hX2 hbc hbs FU hf)
        · rw [if_neg c5] at hf
          exact sp_sub [] rfl (w_X7_runScript_37 hQ hlt hX2 hbc hbs hf)
    · rw [if_neg c2] at hf
      exact sp_sub [] rfl (w_X7_runScript_10 hQ hlt hX2 hbc hbs hf)

theorem o_X7_runScript {h : HP} {v0 : Nat} {v1 : Int32} {v2 : Int64} {res : (Int32 ⊕ String) × HP} (hf : f_X7_runScript h v0 v1 v2 = some res) : ∃ fs, h v0 = some (.inr (7, fs)) := by
  obtain ⟨u, eu, -⟩ := ob hf
  exact kO_spec eu

theorem m_X7_runScript {l : Launch} {Q : PST} {h : HP} {v0 : Nat} {v1 : Int32} {v2 : Int64} {sz : Nat} {res : (Int32 ⊕ String) × HP} (hQ : ∀ sz', Q (outT res.1) res.2 sz') (hlt : l.stackTraces = false) (hf : f_X7_runScript h v0 v1 v2 = some res) : MM l M_X7_runScript [.ref v0, .int v1, .long v2] h sz Q := by
  obtain ⟨u, eu, hf⟩ := ob hf
  exact MM_of wok_X7_runScript (by decide +kernel) (Nat.le_of_ble_eq_true rfl) ((w_X7_runScript_0 hQ hlt rfl (by decide) (by decide) hf))

theorem dX7_doTurn_0 : decode (mB M_X7_doTurn) 0 = .ok (.iload_n 1, 1) := by decide +kernel
theorem dX7_doTurn_1 : decode (mB M_X7_doTurn) 1 = .ok (.bipush 8, 2) := by decide +kernel
theorem dX7_doTurn_3 : decode (mB M_X7_doTurn) 3 = .ok (.idiv, 1) := by decide +kernel
theorem dX7_doTurn_4 : decode (mB M_X7_doTurn) 4 = .ok (.istore_n 2, 1) := by decide +kernel
theorem dX7_doTurn_5 : decode (mB M_X7_doTurn) 5 = .ok (.iload_n 2, 1) := by decide +kernel
theorem dX7_doTurn_6 : decode (mB M_X7_doTurn) 6 = .ok (.bipush 100, 2) := by decide +kernel
theorem dX7_doTurn_8 : decode (mB M_X7_doTurn) 8 = .ok (.irem, 1) := by decide +kernel
theorem dX7_doTurn_9 : decode (mB M_X7_doTurn) 9 = .ok (.istore_n 3, 1) := by decide +kernel
theorem dX7_doTurn_10 : decode (mB M_X7_doTurn) 10 = .ok (.iload_n 1, 1) := by decide +kernel
theorem dX7_doTurn_11 : decode (mB M_X7_doTurn) 11 = .ok (.bipush 8, 2) := by decide +kernel
theorem dX7_doTurn_13 : decode (mB M_X7_doTurn) 13 = .ok (.irem, 1) := by decide +kernel
theorem dX7_doTurn_14 : decode (mB M_X7_doTurn) 14 = .ok (.tableswitch 106 4 7 #[30, 57, 68, 82], 30) := by decide +kernel
theorem dX7_doTurn_44 : decode (mB M_X7_doTurn) 44 = .ok (.aload_n 0, 1) := by decide +kernel
theorem dX7_doTurn_45 : decode (mB M_X7_doTurn) 45 = .ok (.getfield 28, 3) := by decide +kernel
theorem dX7_doTurn_48 : decode (mB M_X7_doTurn) 48 = .ok (.iload_n 3, 1) := by decide +kernel
theorem dX7_doTurn_49 : decode (mB M_X7_doTurn) 49 = .ok (.bipush 99, 2) := by decide +kernel
theorem dX7_doTurn_51 : decode (mB M_X7_doTurn) 51 = .ok (.iload_n 3, 1) := by decide +kernel
theorem dX7_doTurn_52 : decode (mB M_X7_doTurn) 52 = .ok (.iload_n 2, 1) := by decide +kernel
theorem dX7_doTurn_53 : decode (mB M_X7_doTurn) 53 = .ok (.sipush 128, 3) := by decide +kernel
theorem dX7_doTurn_56 : decode (mB M_X7_doTurn) 56 = .ok (.idiv, 1) := by decide +kernel
theorem dX7_doTurn_57 : decode (mB M_X7_doTurn) 57 = .ok (.bipush 20, 2) := by decide +kernel
theorem dX7_doTurn_59 : decode (mB M_X7_doTurn) 59 = .ok (.irem, 1) := by decide +kernel
theorem dX7_doTurn_60 : decode (mB M_X7_doTurn) 60 = .ok (.iadd, 1) := by decide +kernel
theorem dX7_doTurn_61 : decode (mB M_X7_doTurn) 61 = .ok (.invokestatic 326, 3) := by decide +kernel
theorem dX7_doTurn_64 : decode (mB M_X7_doTurn) 64 = .ok (.invokevirtual 311, 3) := by decide +kernel
theorem dX7_doTurn_67 : decode (mB M_X7_doTurn) 67 = .ok (.pop, 1) := by decide +kernel
theorem dX7_doTurn_68 : decode (mB M_X7_doTurn) 68 = .ok (.goto 72, 3) := by decide +kernel
theorem dX7_doTurn_71 : decode (mB M_X7_doTurn) 71 = .ok (.aload_n 0, 1) := by decide +kernel
theorem dX7_doTurn_72 : decode (mB M_X7_doTurn) 72 = .ok (.getfield 28, 3) := by decide +kernel
theorem dX7_doTurn_75 : decode (mB M_X7_doTurn) 75 = .ok (.invokevirtual 314, 3) := by decide +kernel
theorem dX7_doTurn_78 : decode (mB M_X7_doTurn) 78 = .ok (.pop, 1) := by decide +kernel
theorem dX7_doTurn_79 : decode (mB M_X7_doTurn) 79 = .ok (.goto 61, 3) := by decide +kernel
theorem dX7_doTurn_82 : decode (mB M_X7_doTurn) 82 = .ok (.aload_n 0, 1) := by decide +kernel
theorem dX7_doTurn_83 : decode (mB M_X7_doTurn) 83 = .ok (.getfield 28, 3) := by decide +kernel
theorem dX7_doTurn_86 : decode (mB M_X7_doTurn) 86 = .ok (.iload_n 2, 1) := by decide +kernel
theorem dX7_doTurn_87 : decode (mB M_X7_doTurn) 87 = .ok (.iconst 5, 1) := by decide +kernel
theorem dX7_doTurn_88 : decode (mB M_X7_doTurn) 88 = .ok (.irem, 1) := by decide +kernel
theorem dX7_doTurn_89 : decode (mB M_X7_doTurn) 89 = .ok (.invokevirtual 317, 3) := by decide +kernel
theorem dX7_doTurn_92 : decode (mB M_X7_doTurn) 92 = .ok (.pop, 1) := by decide +kernel
theorem dX7_doTurn_93 : decode (mB M_X7_doTurn) 93 = .ok (.goto 47, 3) := by decide +kernel
theorem dX7_doTurn_96 : decode (mB M_X7_doTurn) 96 = .ok (.aload_n 0, 1) := by decide +kernel
theorem dX7_doTurn_97 : decode (mB M_X7_doTurn) 97 = .ok (.getfield 28, 3) := by decide +kernel
theorem dX7_doTurn_100 : decode (mB M_X7_doTurn) 100 = .ok (.invokevirtual 320, 3) := by decide +kernel
theorem dX7_doTurn_103 : decode (mB M_X7_doTurn) 103 = .ok (.ifCond .ne 37, 3) := by decide +kernel
theorem dX7_doTurn_106 : decode (mB M_X7_doTurn) 106 = .ok (.aload_n 0, 1) := by decide +kernel
theorem dX7_doTurn_107 : decode (mB M_X7_doTurn) 107 = .ok (.getfield 28, 3) := by decide +kernel
theorem dX7_doTurn_110 : decode (mB M_X7_doTurn) 110 = .ok (.iload_n 2, 1) := by decide +kernel
theorem dX7_doTurn_111 : decode (mB M_X7_doTurn) 111 = .ok (.iconst 2, 1) := by decide +kernel
theorem dX7_doTurn_112 : decode (mB M_X7_doTurn) 112 = .ok (.irem, 1) := by decide +kernel
theorem dX7_doTurn_113 : decode (mB M_X7_doTurn) 113 = .ok (.invokevirtual 323, 3) := by decide +kernel
theorem dX7_doTurn_116 : decode (mB M_X7_doTurn) 116 = .ok (.pop, 1) := by decide +kernel
theorem dX7_doTurn_117 : decode (mB M_X7_doTurn) 117 = .ok (.goto 23, 3) := by decide +kernel
theorem dX7_doTurn_120 : decode (mB M_X7_doTurn) 120 = .ok (.aload_n 0, 1) := by decide +kernel
theorem dX7_doTurn_121 : decode (mB M_X7_doTurn) 121 = .ok (.getfield 28, 3) := by decide +kernel
theorem dX7_doTurn_124 : decode (mB M_X7_doTurn) 124 = .ok (.iload_n 3, 1) := by decide +kernel
theorem dX7_doTurn_125 : decode (mB M_X7_doTurn) 125 = .ok (.iconst 1, 1) := by decide +kernel
theorem dX7_doTurn_126 : decode (mB M_X7_doTurn) 126 = .ok (.iload_n 2, 1) := by decide +kernel
theorem dX7_doTurn_127 : decode (mB M_X7_doTurn) 127 = .ok (.sipush 128, 3) := by decide +kernel
theorem dX7_doTurn_130 : decode (mB M_X7_doTurn) 130 = .ok (.idiv, 1) := by decide +kernel
theorem dX7_doTurn_131 : decode (mB M_X7_doTurn) 131 = .ok (.sipush 999, 3) := by decide +kernel
theorem dX7_doTurn_134 : decode (mB M_X7_doTurn) 134 = .ok (.irem, 1) := by decide +kernel
theorem dX7_doTurn_135 : decode (mB M_X7_doTurn) 135 = .ok (.iadd, 1) := by decide +kernel
theorem dX7_doTurn_136 : decode (mB M_X7_doTurn) 136 = .ok (.invokevirtual 308, 3) := by decide +kernel
theorem dX7_doTurn_139 : decode (mB M_X7_doTurn) 139 = .ok (.pop, 1) := by decide +kernel
theorem dX7_doTurn_140 : decode (mB M_X7_doTurn) 140 = .ok (.return_, 1) := by decide +kernel
def b_X7_doTurn_0 (v0 : Nat) (v1 : Int32) (h : HP) : Option (HP) :=
  if (jrem v1 8) = 4 then (gR 7 2 h v0).bind fun x2 => (f_X3_tryBury h x2 (jrem (v1 / 8) 100) (jmin 99 ((jrem (v1 / 8) 100) + (jrem ((v1 / 8) / 128) 20)))).bind fun y3 => some y3.2 else if (jrem v1 8) = 5 then (gR 7 2 h v0).bind fun x5 => (f_X3_tryFlush h x5).bind fun y6 => some y6.2 else if (jrem v1 8) = 6 then (gR 7 2 h v0).bind fun x8 => (f_X3_tryMerge h x8 (jrem (v1 / 8) 5)).bind fun y9 => some y9.2 else if (jrem v1 8) = 7 then (gR 7 2 h v0).bind fun x11 => (f_X3_tryOpen h x11).bind fun y12 => if y12.1 = 0 then (gR 7 2 y12.2 v0).bind fun x14 => (f_X3_tryClose y12.2 x14 (jrem (v1 / 8) 2)).bind fun y15 => some y15.2 else some y12.2 else (gR 7 2 h v0).bind fun x16 => (f_X3_tryPut h x16 (jrem (v1 / 8) 100) (1 + (jrem ((v1 / 8) / 128) 999))).bind fun y17 => some y17.2
def f_X7_doTurn (h : HP) (v0 : Nat) (v1 : Int32) : Option (HP) := (kO 7 h v0).bind fun _ => b_X7_doTurn_0 v0 v1 h
theorem w_X7_doTurn_0 {l : Launch} {X : SCR} {Q : PST} {bc bs : Nat} {res : HP} {h : HP} (hQ : ∀ sz', Q (.inl none) res sz') {v0 : Nat} {v1 : Int32} {sz : Nat} (hf : b_X7_doTurn_0 v0 v1 h  = some res) : SP l X M_X7_doTurn 0 [(0, .ref v0), (1, .int v1)] [] h sz bc bs Q := by
  rw [b_X7_doTurn_0] at hf
  refine sp_iload_n (pc := 0) dX7_doTurn_0 1 rfl ?_
  refine sp_bipush (pc := 1) (v := 8) dX7_doTurn_1 (by decide) ?_
  refine sp_idiv (pc := 3) dX7_doTurn_3 (by decide) ?_
  refine sp_istore_n (pc := 4) (lv' := [(2, .int (v1 / 8)), (0, .ref v0), (1, .int v1)]) dX7_doTurn_4 (by decide) rfl ?_
  refine sp_iload_n (pc := 5) dX7_doTurn_5 0 rfl ?_
  refine sp_bipush (pc := 6) (v := 100) dX7_doTurn_6 (by decide) ?_
  refine sp_iremJ (pc := 8) dX7_doTurn_8 (by decide) ?_
  refine sp_istore_n (pc := 9) (lv' := [(3, .int (jrem (v1 / 8) 100)), (2, .int (v1 / 8)), (0, .ref v0), (1, .int v1)]) dX7_doTurn_9 (by decide) rfl ?_
  refine sp_iload_n (pc := 10) dX7_doTurn_10 3 rfl ?_
  refine sp_bipush (pc := 11) (v := 8) dX7_doTurn_11 (by decide) ?_
  refine sp_iremJ (pc := 13) dX7_doTurn_13 (by decide) ?_
  by_cases c1 : (jrem v1 8) = 4
  · rw [if_pos c1] at hf
    refine sp_tableIn (pc := 14) (off := 30) (tgt := 44) dX7_doTurn_14 (by rw [c1]; decide) (by rw [c1]; decide) (by rw [c1]; rfl) (by decide) ?_
    refine sp_aload_n (pc := 44) dX7_doTurn_44 2 rfl ?_
    obtain ⟨x2, ex2, hf⟩ := ob hf
    refine sp_gR (pc := 45) fl_RX7_28 dX7_doTurn_45 ex2 ?_
    refine sp_iload_n (pc := 48) dX7_doTurn_48 0 rfl ?_
    refine sp_bipush (pc := 49) (v := 99) dX7_doTurn_49 (by decide) ?_
    refine sp_iload_n (pc := 51) dX7_doTurn_51 0 rfl ?_
    refine sp_iload_n (pc := 52) dX7_doTurn_52 1 rfl ?_
    refine sp_sipush (pc := 53) (v := 128) dX7_doTurn_53 (by decide) ?_
    refine sp_idiv (pc := 56) dX7_doTurn_56 (by decide) ?_
    refine sp_bipush (pc := 57) (v := 20) dX7_doTurn_57 (by decide) ?_
    refine sp_iremJ (pc := 59) dX7_doTurn_59 (by decide) ?_
    refine sp_iadd (pc := 60) dX7_doTurn_60 ?_
    refine sp_mminJ (pc := 61) bk_942 bk_399 bk_66 bk_400 dX7_doTurn_61 (by decide) (Nat.le_of_ble_eq_true rfl) ?_
    obtain ⟨y3, ey3, hf⟩ := ob hf
    obtain ⟨fsy3, hoy3⟩ := o_X3_tryBury ey3
    refine sp_callVi (pc := 64) (z := M_X3_tryBury) (As := [.int (jrem (v1 / 8) 100), .int (jmin 99 ((jrem (v1 / 8) 100) + (jrem ((v1 / 8) / 128) 20)))]) (b := x2) (bc2 := bc) (bs2 := bs) (m_X3_tryBury (Q := _) (fun sz => ⟨y3.1, rfl, ?_⟩) ey3) rfl dX7_doTurn_64 hoy3 rfl rfl ck_X7_doTurn_311 (Nat.le_of_ble_eq_true rfl) rfl rfl rfl
    refine sp_pop (pc := 67) dX7_doTurn_67 rfl ?_
    refine sp_goto (pc := 68) (tgt := 140) dX7_doTurn_68 (by decide) ?_
    obtain rfl := Option.some.inj hf
    exact sp_return (pc := 140) dX7_doTurn_140 rfl (hQ _)
  rw [if_neg c1] at hf
  by_cases c4 : (jrem v1 8) = 5
  · rw [if_pos c4] at hf
    refine sp_tableIn (pc := 14) (off := 57) (tgt := 71) dX7_doTurn_14 (by rw [c4]; decide) (by rw [c4]; decide) (by rw [c4]; rfl) (by decide) ?_
    refine sp_aload_n (pc := 71) dX7_doTurn_71 2 rfl ?_
    obtain ⟨x5, ex5, hf⟩ := ob hf
    refine sp_gR (pc := 72) fl_RX7_28 dX7_doTurn_72 ex5 ?_
    obtain ⟨y6, ey6, hf⟩ := ob hf
    obtain ⟨fsy6, hoy6⟩ := o_X3_tryFlush ey6
    refine sp_callVi (pc := 75) (z := M_X3_tryFlush) (As := []) (b := x5) (bc2 := bc) (bs2 := bs) (m_X3_tryFlush (Q := _) (fun sz => ⟨y6.1, rfl, ?_⟩) ey6) rfl dX7_doTurn_75 hoy6 rfl rfl ck_X7_doTurn_314 (Nat.le_of_ble_eq_true rfl) rfl rfl rfl
    refine sp_pop (pc := 78) dX7_doTurn_78 rfl ?_
    refine sp_goto (pc := 79) (tgt := 140) dX7_doTurn_79 (by decide) ?_
    obtain rfl := Option.some.inj hf
    exact sp_return (pc := 140) dX7_doTurn_140 rfl (hQ _)
  rw [if_neg c4] at hf
  by_cases c7 : (jrem v1 8) = 6
  · rw [if_pos c7] at hf
    refine sp_tableIn (pc := 14) (off := 68) (tgt := 82) dX7_doTurn_14 (by rw [c7]; decide) (by rw [c7]; decide) (by rw [c7]; rfl) (by decide) ?_
    refine sp_aload_n (pc := 82) dX7_doTurn_82 2 rfl ?_
    obtain ⟨x8, ex8, hf⟩ := ob hf
    refine sp_gR (pc := 83) fl_RX7_28 dX7_doTurn_83 ex8 ?_
    refine sp_iload_n (pc := 86) dX7_doTurn_86 1 rfl ?_
    refine sp_iconst (pc := 87) (v := 5) dX7_doTurn_87 (by decide) ?_
    refine sp_iremJ (pc := 88) dX7_doTurn_88 (by decide) ?_
    obtain ⟨y9, ey9, hf⟩ := ob hf
    obtain ⟨fsy9, hoy9⟩ := o_X3_tryMerge ey9
    refine sp_callVi (pc := 89) (z := M_X3_tryMerge) (As := [.int (jrem (v1 / 8) 5)]) (b := x8) (bc2 := bc) (bs2 := bs) (m_X3_tryMerge (Q := _) (fun sz => ⟨y9.1, rfl, ?_⟩) ey9) rfl dX7_doTurn_89 hoy9 rfl rfl ck_X7_doTurn_317 (Nat.le_of_ble_eq_true rfl) rfl rfl rfl
    refine sp_pop (pc := 92) dX7_doTurn_92 rfl ?_
    refine sp_goto (pc := 93) (tgt := 140) dX7_doTurn_93 (by decide) ?_
    obtain rfl := Option.some.inj hf
    exact sp_return (pc := 140) dX7_doTurn_140 rfl (hQ _)
  rw [if_neg c7] at hf
  by_cases c10 : (jrem v1 8) = 7
  · rw [if_pos c10] at hf
    refine sp_tableIn (pc := 14) (off := 82) (tgt := 96) dX7_doTurn_14 (by rw [c10]; decide) (by rw [c10]; decide) (by rw [c10]; rfl) (by decide) ?_
    refine sp_aload_n (pc := 96) dX7_doTurn_96 2 rfl ?_
    obtain ⟨x11, ex11, hf⟩ := ob hf
    refine sp_gR (pc := 97) fl_RX7_28 dX7_doTurn_97 ex11 ?_
    obtain ⟨y12, ey12, hf⟩ := ob hf
    obtain ⟨fsy12, hoy12⟩ := o_X3_tryOpen ey12
    refine sp_callVi (pc := 100) (z := M_X3_tryOpen) (As := []) (b := x11) (bc2 := bc) (bs2 := bs) (m_X3_tryOpen (Q := _) (fun sz => ⟨y12.1, rfl, ?_⟩) ey12) rfl dX7_doTurn_100 hoy12 rfl rfl ck_X7_doTurn_320 (Nat.le_of_ble_eq_true rfl) rfl rfl rfl
    refine sp_if_ne (pc := 103) (tgt := 140) dX7_doTurn_103 (by decide) (fun c13 => ?_) (fun c13 => ?_)
    · rw [if_neg c13] at hf
      obtain rfl := Option.some.inj hf
      exact sp_return (pc := 140) dX7_doTurn_140 rfl (hQ _)
    · rw [if_pos c13] at hf
      refine sp_aload_n (pc := 106) dX7_doTurn_106 2 rfl ?_
      obtain ⟨x14, ex14, hf⟩ := ob hf
      refine sp_gR (pc := 107) fl_RX7_28 dX7_doTurn_107 ex14 ?_
      refine sp_iload_n (pc := 110) dX7_doTurn_110 1 rfl ?_
      refine sp_iconst (pc := 111) (v := 2) dX7_doTurn_111 (by decide) ?_
      refine sp_iremJ (pc := 112) dX7_doTurn_112 (by decide) ?_
      obtain ⟨y15, ey15, hf⟩ := ob hf
      obtain ⟨fsy15, hoy15⟩ := o_X3_tryClose ey15
      refine sp_callVi (pc := 113) (z := M_X3_tryClose) (As := [.int (jrem (v1 / 8) 2)]) (b := x14) (bc2 := bc) (bs2 := bs) (m_X3_tryClose (Q := _) (fun sz => ⟨y15.1, rfl, ?_⟩) ey15) rfl dX7_doTurn_113 hoy15 rfl rfl ck_X7_doTurn_323 (Nat.le_of_ble_eq_true rfl) rfl rfl rfl
      refine sp_pop (pc := 116) dX7_doTurn_116 rfl ?_
      refine sp_goto (pc := 117) (tgt := 140) dX7_doTurn_117 (by decide) ?_
      obtain rfl := Option.some.inj hf
      exact sp_return (pc := 140) dX7_doTurn_140 rfl (hQ _)
  rw [if_neg c10] at hf
  refine sp_tableOut (pc := 14) (tgt := 120) dX7_doTurn_14 (tbl_out (fun i h1 h2 he => ?_)) (by decide) ?_
  · rcases (show i = 4 ∨ i = 5 ∨ i = 6 ∨ i = 7 by omega) with rfl | rfl | rfl | rfl
    · exact c1 (Int32.toInt_inj.mp (he.trans (by decide)))
    · exact c4 (Int32.toInt_inj.mp (he.trans (by decide)))
    · exact c7 (Int32.toInt_inj.mp (he.trans (by decide)))
    · exact c10 (Int32.toInt_inj.mp (he.trans (by decide)))
  refine sp_aload_n (pc := 120) dX7_doTurn_120 2 rfl ?_
  obtain ⟨x16, ex16, hf⟩ := ob hf
  refine sp_gR (pc := 121) fl_RX7_28 dX7_doTurn_121 ex16 ?_
  refine sp_iload_n (pc := 124) dX7_doTurn_124 0 rfl ?_
  refine sp_iconst (pc := 125) (v := 1) dX7_doTurn_125 (by decide) ?_
  refine sp_iload_n (pc := 126) dX7_doTurn_126 1 rfl ?_
  refine sp_sipush (pc := 127) (v := 128) dX7_doTurn_127 (by decide) ?_
  refine sp_idiv (pc := 130) dX7_doTurn_130 (by decide) ?_
  refine sp_sipush (pc := 131) (v := 999) dX7_doTurn_131 (by decide) ?_
  refine sp_iremJ (pc := 134) dX7_doTurn_134 (by decide) ?_
  refine sp_iadd (pc := 135) dX7_doTurn_135 ?_
  obtain ⟨y17, ey17, hf⟩ := ob hf
  obtain ⟨fsy17, hoy17⟩ := o_X3_tryPut ey17
  refine sp_callVi (pc := 136) (z := M_X3_tryPut) (As := [.int (jrem (v1 / 8) 100), .int (1 + (jrem ((v1 / 8) / 128) 999))]) (b := x16) (bc2 := bc) (bs2 := bs) (m_X3_tryPut (Q := _) (fun sz => ⟨y17.1, rfl, ?_⟩) ey17) rfl dX7_doTurn_136 hoy17 rfl rfl ck_X7_doTurn_308 (Nat.le_of_ble_eq_true rfl) rfl rfl rfl
  refine sp_pop (pc := 139) dX7_doTurn_139 rfl ?_
  obtain rfl := Option.some.inj hf
  exact sp_return (pc := 140) dX7_doTurn_140 rfl (hQ _)

theorem o_X7_doTurn {h : HP} {v0 : Nat} {v1 : Int32} {res : HP} (hf : f_X7_doTurn h v0 v1 = some res) : ∃ fs, h v0 = some (.inr (7, fs)) := by
  obtain ⟨u, eu, -⟩ := ob hf
  exact kO_spec eu

theorem m_X7_doTurn {l : Launch} {Q : PST} {h : HP} {v0 : Nat} {v1 : Int32} {sz : Nat} {res : HP} (hQ : ∀ sz', Q (.inl none) res sz') (hf : f_X7_doTurn h v0 v1 = some res) : MM l M_X7_doTurn [.ref v0, .int v1] h sz Q := by
  obtain ⟨u, eu, hf⟩ := ob hf
  exact MM_of wok_X7_doTurn (by decide +kernel) (Nat.le_of_ble_eq_true rfl) ((w_X7_doTurn_0 hQ hf))

theorem dX7_simulate_0 : decode (mB M_X7_simulate) 0 = .ok (.iload_n 3, 1) := by decide +kernel
theorem dX7_simulate_1 : decode (mB M_X7_simulate) 1 = .ok (.iconst 1, 1) := by decide +kernel
theorem dX7_simulate_2 : decode (mB M_X7_simulate) 2 = .ok (.if_icmp .lt 9, 3) := by decide +kernel
theorem dX7_simulate_5 : decode (mB M_X7_simulate) 5 = .ok (.iload_n 3, 1) := by decide +kernel
theorem dX7_simulate_6 : decode (mB M_X7_simulate) 6 = .ok (.bipush 60, 2) := by decide +kernel
theorem dX7_simulate_8 : decode (mB M_X7_simulate) 8 = .ok (.if_icmp .le 14, 3) := by decide +kernel
theorem dX7_simulate_11 : decode (mB M_X7_simulate) 11 = .ok (.new 55, 3) := by decide +kernel
theorem dX7_simulate_14 : decode (mB M_X7_simulate) 14 = .ok (.dup, 1) := by decide +kernel
theorem dX7_simulate_15 : decode (mB M_X7_simulate) 15 = .ok (.ldc_w 289, 3) := by decide +kernel
theorem dX7_simulate_18 : decode (mB M_X7_simulate) 18 = .ok (.invokespecial 59, 3) := by decide +kernel
theorem dX7_simulate_21 : decode (mB M_X7_simulate) 21 = .ok (.athrow, 1) := by decide +kernel
theorem dX7_simulate_22 : decode (mB M_X7_simulate) 22 = .ok (.aload_n 0, 1) := by decide +kernel
theorem dX7_simulate_23 : decode (mB M_X7_simulate) 23 = .ok (.getfield 28, 3) := by decide +kernel
theorem dX7_simulate_26 : decode (mB M_X7_simulate) 26 = .ok (.aload_n 0, 1) := by decide +kernel
theorem dX7_simulate_27 : decode (mB M_X7_simulate) 27 = .ok (.getfield 24, 3) := by decide +kernel
theorem dX7_simulate_30 : decode (mB M_X7_simulate) 30 = .ok (.invokevirtual 270, 3) := by decide +kernel
theorem dX7_simulate_33 : decode (mB M_X7_simulate) 33 = .ok (.lload_n 1, 1) := by decide +kernel
theorem dX7_simulate_34 : decode (mB M_X7_simulate) 34 = .ok (.lstore 4, 2) := by decide +kernel
theorem dX7_simulate_36 : decode (mB M_X7_simulate) 36 = .ok (.iconst 0, 1) := by decide +kernel
theorem dX7_simulate_37 : decode (mB M_X7_simulate) 37 = .ok (.istore 6, 2) := by decide +kernel
theorem dX7_simulate_39 : decode (mB M_X7_simulate) 39 = .ok (.iload 6, 2) := by decide +kernel
theorem dX7_simulate_41 : decode (mB M_X7_simulate) 41 = .ok (.iload_n 3, 1) := by decide +kernel
theorem dX7_simulate_42 : decode (mB M_X7_simulate) 42 = .ok (.if_icmp .ge 31, 3) := by decide +kernel
theorem dX7_simulate_45 : decode (mB M_X7_simulate) 45 = .ok (.lload 4, 2) := by decide +kernel
theorem dX7_simulate_47 : decode (mB M_X7_simulate) 47 = .ok (.ldc2_w 291, 3) := by decide +kernel
theorem dX7_simulate_50 : decode (mB M_X7_simulate) 50 = .ok (.lmul, 1) := by decide +kernel
theorem dX7_simulate_51 : decode (mB M_X7_simulate) 51 = .ok (.ldc2_w 293, 3) := by decide +kernel
theorem dX7_simulate_54 : decode (mB M_X7_simulate) 54 = .ok (.ladd, 1) := by decide +kernel
theorem dX7_simulate_55 : decode (mB M_X7_simulate) 55 = .ok (.lstore 4, 2) := by decide +kernel
theorem dX7_simulate_57 : decode (mB M_X7_simulate) 57 = .ok (.aload_n 0, 1) := by decide +kernel
theorem dX7_simulate_58 : decode (mB M_X7_simulate) 58 = .ok (.lload 4, 2) := by decide +kernel
theorem dX7_simulate_60 : decode (mB M_X7_simulate) 60 = .ok (.bipush 33, 2) := by decide +kernel
theorem dX7_simulate_62 : decode (mB M_X7_simulate) 62 = .ok (.lushr, 1) := by decide +kernel
theorem dX7_simulate_63 : decode (mB M_X7_simulate) 63 = .ok (.l2i, 1) := by decide +kernel
theorem dX7_simulate_64 : decode (mB M_X7_simulate) 64 = .ok (.invokevirtual 295, 3) := by decide +kernel
theorem dX7_simulate_67 : decode (mB M_X7_simulate) 67 = .ok (.iinc 6 1, 3) := by decide +kernel
theorem dX7_simulate_70 : decode (mB M_X7_simulate) 70 = .ok (.goto (-31), 3) := by decide +kernel
theorem dX7_simulate_73 : decode (mB M_X7_simulate) 73 = .ok (.sipush 1000, 3) := by decide +kernel
theorem dX7_simulate_76 : decode (mB M_X7_simulate) 76 = .ok (.aload_n 0, 1) := by decide +kernel
theorem dX7_simulate_77 : decode (mB M_X7_simulate) 77 = .ok (.aload_n 0, 1) := by decide +kernel
theorem dX7_simulate_78 : decode (mB M_X7_simulate) 78 = .ok (.getfield 28, 3) := by decide +kernel
theorem dX7_simulate_81 : decode (mB M_X7_simulate) 81 = .ok (.invokevirtual 118, 3) := by decide +kernel
theorem dX7_simulate_84 : decode (mB M_X7_simulate) 84 = .ok (.imul, 1) := by decide +kernel
theorem dX7_simulate_85 : decode (mB M_X7_simulate) 85 = .ok (.aload_n 0, 1) := by decide +kernel
theorem dX7_simulate_86 : decode (mB M_X7_simulate) 86 = .ok (.getfield 28, 3) := by decide +kernel
theorem dX7_simulate_89 : decode (mB M_X7_simulate) 89 = .ok (.invokevirtual 111, 3) := by decide +kernel
theorem dX7_simulate_92 : decode (mB M_X7_simulate) 92 = .ok (.iadd, 1) := by decide +kernel
theorem dX7_simulate_93 : decode (mB M_X7_simulate) 93 = .ok (.ireturn, 1) := by decide +kernel
def c_X7_simulate_39 (v0 : Nat) (v3 : Int32) (k39 : HP → Int64 → Int32 → Option ((Int32 ⊕ String) × HP)) (h : HP) (v4 : Int64) (v6 : Int32) : Option ((Int32 ⊕ String) × HP) :=
  if v3 ≤ v6 then (gR 7 2 h v0).bind fun x2 => (f_X7_seenNow h v0 x2).bind fun y3 => (gR 7 2 y3.2 v0).bind fun x4 => (f_X3_size y3.2 x4).bind fun y5 => some (.inl ((1000 * y3.1) + y5), y3.2) else (f_X7_doTurn h v0 (Int64.toInt32 (jlushr ((v4 * 6364136223846793005) + 1442695040888963407) 33))).bind fun y6 => k39 y6 ((v4 * 6364136223846793005) + 1442695040888963407) (v6 + 1)
def b_X7_simulate_39 (v0 : Nat) (v3 : Int32) : Nat → HP → Int64 → Int32 → Option ((Int32 ⊕ String) × HP)
  | 0, _, _, _ => none
  | n + 1, h, v4, v6 => c_X7_simulate_39 v0 v3 (b_X7_simulate_39 v0 v3 n) h v4 v6
def b_X7_simulate_11 (h : HP) : Option ((Int32 ⊕ String) × HP) :=
  some (.inr "java/lang/IllegalArgumentException", h)
def b_X7_simulate_0 (v0 : Nat) (v1 : Int64) (v3 : Int32) (h : HP) : Option ((Int32 ⊕ String) × HP) :=
  if v3 < 1 then b_X7_simulate_11 h else if v3 ≤ 60 then (gR 7 2 h v0).bind fun x3 => (gR 7 1 h v0).bind fun x4 => (f_X3_become h x3 x4).bind fun y5 => b_X7_simulate_39 v0 v3 FU y5 v1 0 else b_X7_simulate_11 h
def f_X7_simulate (h : HP) (v0 : Nat) (v1 : Int64) (v3 : Int32) : Option ((Int32 ⊕ String) × HP) := (kO 7 h v0).bind fun _ => b_X7_simulate_0 v0 v1 v3 h
theorem wc_X7_simulate_39 {l : Launch} {X : SCR} {Q : PST} {bc bs : Nat} {res : (Int32 ⊕ String) × HP} (hQ : ∀ sz', Q (outT res.1) res.2 sz') (hlt : l.stackTraces = false) (hX2 : X.2 = some []) (hbc : 1 ≤ bc) (hbs : 6 ≤ bs) {v0 : Nat} {v3 : Int32} {k39 : HP → Int64 → Int32 → Option ((Int32 ⊕ String) × HP)} (hk39 : ∀ (h : HP) (v4 : Int64) (v6 : Int32) (sz : Nat), k39 h v4 v6 = some res → SP l X M_X7_simulate 39 [(0, .ref v0), (3, .int v3), (4, .long v4), (6, .int v6)] [] h sz bc bs Q) {h : HP} {v4 : Int64} {v6 : Int32} {sz : Nat} (hf : c_X7_simulate_39 v0 v3 k39 h v4 v6 = some res) : SP l X M_X7_simulate 39 [(0, .ref v0), (3, .int v3), (4, .long v4), (6, .int v6)] [] h sz bc bs Q := by
  rw [c_X7_simulate_39] at hf
  refine sp_iload (pc := 39) dX7_simulate_39 3 rfl ?_
  refine sp_iload_n (pc := 41) dX7_simulate_41 1 rfl ?_
  refine sp_icmp_ge (pc := 42) (tgt := 73) dX7_simulate_42 (by decide) (fun c1 => ?_) (fun c1 => ?_)
  · rw [if_pos c1] at hf
    refine sp_sipush (pc := 73) (v := 1000) dX7_simulate_73 (by decide) ?_
    refine sp_aload_n (pc := 76) dX7_simulate_76 0 rfl ?_
    refine sp_aload_n (pc := 77) dX7_simulate_77 0 rfl ?_
    obtain ⟨x2, ex2, hf⟩ := ob hf
    refine sp_gR (pc := 78) fl_RX7_28 dX7_simulate_78 ex2 ?_
    obtain ⟨y3, ey3, hf⟩ := ob hf
    obtain ⟨fsy3, hoy3⟩ := o_X7_seenNow ey3
    refine sp_callVi (pc := 81) (z := M_X7_seenNow) (As := [.ref x2]) (b := v0) (bc2 := bc) (bs2 := bs) (m_X7_seenNow (Q := _) (fun sz => ⟨y3.1, rfl, ?_⟩) ey3) rfl dX7_simulate_81 hoy3 rfl rfl ck_X7_simulate_118 (Nat.le_of_ble_eq_true rfl) rfl rfl rfl
    refine sp_imul (pc := 84) dX7_simulate_84 ?_
    refine sp_aload_n (pc := 85) dX7_simulate_85 0 rfl ?_
    obtain ⟨x4, ex4, hf⟩ := ob hf
    refine sp_gR (pc := 86) fl_RX7_28 dX7_simulate_86 ex4 ?_
    obtain ⟨y5, ey5, hf⟩ := ob hf
    obtain ⟨fsy5, hoy5⟩ := o_X3_size ey5
    refine sp_callVi (pc := 89) (z := M_X3_size) (As := []) (b := x4) (bc2 := bc) (bs2 := bs) (m_X3_size (Q := _) (fun sz => ⟨y5, rfl, ?_⟩) ey5) rfl dX7_simulate_89 hoy5 rfl rfl ck_X7_simulate_111 (Nat.le_of_ble_eq_true rfl) rfl rfl rfl
    refine sp_iadd (pc := 92) dX7_simulate_92 ?_
    obtain rfl := Option.some.inj hf
    exact sp_ireturn (pc := 93) dX7_simulate_93 rfl rfl (hQ _)
  · rw [if_neg c1] at hf
    refine sp_lload (pc := 45) dX7_simulate_45 2 rfl ?_
    refine sp_ldc2 (pc := 47) dX7_simulate_47 bk_936 ?_
    refine sp_lmul (pc := 50) dX7_simulate_50 ?_
    refine sp_ldc2 (pc := 51) dX7_simulate_51 bk_937 ?_
    refine sp_ladd (pc := 54) dX7_simulate_54 ?_
    refine sp_lstore (pc := 55) (lv' := [(4, .long ((v4 * 6364136223846793005) + 1442695040888963407)), (0, .ref v0), (3, .int v3), (6, .int v6)]) dX7_simulate_55 (by decide) rfl ?_
    refine sp_aload_n (pc := 57) dX7_simulate_57 1 rfl ?_
    refine sp_lload (pc := 58) dX7_simulate_58 0 rfl ?_
    refine sp_bipush (pc := 60) (v := 33) dX7_simulate_60 (by decide) ?_
    refine sp_lushrJ (pc := 62) dX7_simulate_62 ?_
    refine sp_l2i (pc := 63) dX7_simulate_63 ?_
    obtain ⟨y6, ey6, hf⟩ := ob hf
    obtain ⟨fsy6, hoy6⟩ := o_X7_doTurn ey6
    refine sp_callVv (pc := 64) (z := M_X7_doTurn) (As := [.int (Int64.toInt32 (jlushr ((v4 * 6364136223846793005) + 1442695040888963407) 33))]) (b := v0) (bc2 := bc) (bs2 := bs) (m_X7_doTurn (Q := _) (fun sz => ⟨(), rfl, ?_⟩) ey6) rfl dX7_simulate_64 hoy6 rfl rfl ck_X7_simulate_295 (Nat.le_of_ble_eq_true rfl) rfl rfl rfl
    refine sp_iinc (pc := 67) (v := v6 + 1) (lv' := [(6, .int (v6 + 1)), (4, .long ((v4 * 6364136223846793005) + 1442695040888963407)), (0, .ref v0), (3, .int v3)]) dX7_simulate_67 3 rfl rfl (by decide) rfl ?_
    refine sp_goto (pc := 70) (tgt := 39) dX7_simulate_70 (by decide) ?_
    exact sp_sub [2, 3, 1, 0] rfl (hk39 _ _ _ _ hf)

theorem w_X7_simulate_39 {l : Launch} {X : SCR} {Q : PST} {bc bs : Nat} {res : (Int32 ⊕ String) × HP} (hQ : ∀ sz', Q (outT res.1) res.2 sz') (hlt : l.stackTraces = false) (hX2 : X.2 = some []) (hbc : 1 ≤ bc) (hbs : 6 ≤ bs) {v0 : Nat} {v3 : Int32} : ∀ (n : Nat) {h : HP} {v4 : Int64} {v6 : Int32} {sz : Nat}, b_X7_simulate_39 v0 v3 n h v4 v6 = some res → SP l X M_X7_simulate 39 [(0, .ref v0), (3, .int v3), (4, .long v4), (6, .int v6)] [] h sz bc bs Q := by
  intro n
  induction n with
  | zero =>
    intro h v4 v6 sz hf
    rw [b_X7_simulate_39] at hf
    cases hf
  | succ n ih =>
    intro h v4 v6 sz hf
    rw [b_X7_simulate_39] at hf
    exact wc_X7_simulate_39 hQ hlt hX2 hbc hbs (fun h v4 v6 sz hf => ih hf) hf

theorem w_X7_simulate_11 {l : Launch} {X : SCR} {Q : PST} {bc bs : Nat} {res : (Int32 ⊕ String) × HP} {h : HP} (hQ : ∀ sz', Q (outT res.1) res.2 sz') (hlt : l.stackTraces = false) (hX2 : X.2 = some []) (hbc : 1 ≤ bc) (hbs : 6 ≤ bs) {sz : Nat} (hf : b_X7_simulate_11 h  = some res) : SP l X M_X7_simulate 11 [] [] h sz bc bs Q := by
  rw [b_X7_simulate_11] at hf
  obtain rfl := Option.some.inj hf
  exact sp_throwSW (pc := 11) tr_RX7_55_289_59 hlt hX2 dX7_simulate_11 dX7_simulate_14 dX7_simulate_15 dX7_simulate_18 dX7_simulate_21 (by decide) (Nat.le_of_ble_eq_true rfl) hbc hbs hQ

theorem w_X7_simulate_0 {l : Launch} {X : SCR} {Q : PST} {bc bs : Nat} {res : (Int32 ⊕ String) × HP} {h : HP} (hQ : ∀ sz', Q (outT res.1) res.2 sz') (hlt : l.stackTraces = false) (hX2 : X.2 = some []) (hbc : 1 ≤ bc) (hbs : 6 ≤ bs) {v0 : Nat} {v1 : Int64} {v3 : Int32} {sz : Nat} (hf : b_X7_simulate_0 v0 v1 v3 h  = some res) : SP l X M_X7_simulate 0 [(0, .ref v0), (1, .long v1), (3, .int v3)] [] h sz bc bs Q := by
  rw [b_X7_simulate_0] at hf
  refine sp_iload_n (pc := 0) dX7_simulate_0 2 rfl ?_
  refine sp_iconst (pc := 1) (v := 1) dX7_simulate_1 (by decide) ?_
  refine sp_icmp_lt (pc := 2) (tgt := 11) dX7_simulate_2 (by decide) (fun c1 => ?_) (fun c1 => ?_)
  · rw [if_pos c1] at hf
    exact sp_sub [] rfl (w_X7_simulate_11 hQ hlt hX2 hbc hbs hf)
  · rw [if_neg c1] at hf
    refine sp_iload_n (pc := 5) dX7_simulate_5 2 rfl ?_
    refine sp_bipush (pc := 6) (v := 60) dX7_simulate_6 (by decide) ?_
    refine sp_icmp_le (pc := 8) (tgt := 22) dX7_simulate_8 (by decide) (fun c2 => ?_) (fun c2 => ?_)
    · rw [if_pos c2] at hf
      refine sp_aload_n (pc := 22) dX7_simulate_22 0 rfl ?_
      obtain ⟨x3, ex3, hf⟩ := ob hf
      refine sp_gR (pc := 23) fl_RX7_28 dX7_simulate_23 ex3 ?_
      refine sp_aload_n (pc := 26) dX7_simulate_26 0 rfl ?_
      obtain ⟨x4, ex4, hf⟩ := ob hf
      refine sp_gR (pc := 27) fl_RX7_24 dX7_simulate_27 ex4 ?_
      obtain ⟨y5, ey5, hf⟩ := ob hf
      obtain ⟨fsy5, hoy5⟩ := o_X3_become ey5
      refine sp_callVv (pc := 30) (z := M_X3_become) (As := [.ref x4]) (b := x3) (bc2 := bc) (bs2 := bs) (m_X3_become (Q := _) (fun sz => ⟨(), rfl, ?_⟩) ey5) rfl dX7_simulate_30 hoy5 rfl rfl ck_X7_simulate_270 (Nat.le_of_ble_eq_true rfl) rfl rfl rfl
      refine sp_lload_n (pc := 33) dX7_simulate_33 1 rfl ?_
      refine sp_lstore (pc := 34) (lv' := [(4, .long v1), (0, .ref v0), (1, .long v1), (3, .int v3)]) dX7_simulate_34 (by decide) rfl ?_
      refine sp_iconst (pc := 36) (v := 0) dX7_simulate_36 (by decide) ?_
      refine sp_istore (pc := 37) (lv' := [(6, .int 0), (4, .long v1), (0, .ref v0), (1, .long v1), (3, .int v3)]) dX7_simulate_37 (by decide) rfl ?_
      exact sp_sub [2, 4, 1, 0] rfl (w_X7_simulate_39 hQ hlt hX2 hbc hbs FU hf)
    · rw [if_neg c2] at hf
      exact sp_sub [] rfl (w_X7_simulate_11 hQ hlt hX2 hbc hbs hf)

theorem o_X7_simulate {h : HP} {v0 : Nat} {v1 : Int64} {v3 : Int32} {res : (Int32 ⊕ String) × HP} (hf : f_X7_simulate h v0 v1 v3 = some res) : ∃ fs, h v0 = some (.inr (7, fs)) := by
  obtain ⟨u, eu, -⟩ := ob hf
  exact kO_spec eu

theorem m_X7_simulate {l : Launch} {Q : PST} {h : HP} {v0 : Nat} {v1 : Int64} {v3 : Int32} {sz : Nat} {res : (Int32 ⊕ String) × HP} (hQ : ∀ sz', Q (outT res.1) res.2 sz') (hlt : l.stackTraces = false) (hf : f_X7_simulate h v0 v1 v3 = some res) : MM l M_X7_simulate [.ref v0, .long v1, .int v3] h sz Q := by
  obtain ⟨u, eu, hf⟩ := ob hf
  exact MM_of wok_X7_simulate (by decide +kernel) (Nat.le_of_ble_eq_true rfl) ((w_X7_simulate_0 hQ hlt rfl (by decide) (by decide) hf))

theorem dX7_save_0 : decode (mB M_X7_save) 0 = .ok (.iload_n 1, 1) := by decide +kernel
theorem dX7_save_1 : decode (mB M_X7_save) 1 = .ok (.ifCond .lt 8, 3) := by decide +kernel
theorem dX7_save_4 : decode (mB M_X7_save) 4 = .ok (.iload_n 1, 1) := by decide +kernel
theorem dX7_save_5 : decode (mB M_X7_save) 5 = .ok (.iconst 2, 1) := by decide +kernel
theorem dX7_save_6 : decode (mB M_X7_save) 6 = .ok (.if_icmp .lt 14, 3) := by decide +kernel
theorem dX7_save_9 : decode (mB M_X7_save) 9 = .ok (.new 140, 3) := by decide +kernel
theorem dX7_save_12 : decode (mB M_X7_save) 12 = .ok (.dup, 1) := by decide +kernel
theorem dX7_save_13 : decode (mB M_X7_save) 13 = .ok (.ldc_w 298, 3) := by decide +kernel
theorem dX7_save_16 : decode (mB M_X7_save) 16 = .ok (.invokespecial 144, 3) := by decide +kernel
theorem dX7_save_19 : decode (mB M_X7_save) 19 = .ok (.athrow, 1) := by decide +kernel
theorem dX7_save_20 : decode (mB M_X7_save) 20 = .ok (.aload_n 0, 1) := by decide +kernel
theorem dX7_save_21 : decode (mB M_X7_save) 21 = .ok (.getfield 40, 3) := by decide +kernel
theorem dX7_save_24 : decode (mB M_X7_save) 24 = .ok (.iload_n 1, 1) := by decide +kernel
theorem dX7_save_25 : decode (mB M_X7_save) 25 = .ok (.aaload, 1) := by decide +kernel
theorem dX7_save_26 : decode (mB M_X7_save) 26 = .ok (.aload_n 0, 1) := by decide +kernel
theorem dX7_save_27 : decode (mB M_X7_save) 27 = .ok (.getfield 24, 3) := by decide +kernel
theorem dX7_save_30 : decode (mB M_X7_save) 30 = .ok (.invokevirtual 270, 3) := by decide +kernel
theorem dX7_save_33 : decode (mB M_X7_save) 33 = .ok (.aload_n 0, 1) := by decide +kernel
theorem dX7_save_34 : decode (mB M_X7_save) 34 = .ok (.getfield 44, 3) := by decide +kernel
theorem dX7_save_37 : decode (mB M_X7_save) 37 = .ok (.iload_n 1, 1) := by decide +kernel
theorem dX7_save_38 : decode (mB M_X7_save) 38 = .ok (.iconst 1, 1) := by decide +kernel
theorem dX7_save_39 : decode (mB M_X7_save) 39 = .ok (.bastore, 1) := by decide +kernel
theorem dX7_save_40 : decode (mB M_X7_save) 40 = .ok (.aload_n 0, 1) := by decide +kernel
theorem dX7_save_41 : decode (mB M_X7_save) 41 = .ok (.getfield 24, 3) := by decide +kernel
theorem dX7_save_44 : decode (mB M_X7_save) 44 = .ok (.invokevirtual 111, 3) := by decide +kernel
theorem dX7_save_47 : decode (mB M_X7_save) 47 = .ok (.ireturn, 1) := by decide +kernel
def b_X7_save_9 (h : HP) : Option ((Int32 ⊕ String) × HP) :=
  some (.inr "java/lang/IndexOutOfBoundsException", h)
def b_X7_save_0 (v0 : Nat) (v1 : Int32) (h : HP) : Option ((Int32 ⊕ String) × HP) :=
  if v1 < 0 then b_X7_save_9 h else if v1 < 2 then (gR 7 4 h v0).bind fun x3 => (aR 4 h x3 v1).bind fun x4 => (gR 7 1 h v0).bind fun x5 => (f_X3_become h x4 x5).bind fun y6 => (gR 7 5 y6 v0).bind fun x7 => (wZ y6 x7 v1 1).bind fun h8 => (gR 7 1 h8 v0).bind fun x9 => (f_X3_size h8 x9).bind fun y10 => some (.inl y10, h8) else b_X7_save_9 h
def f_X7_save (h : HP) (v0 : Nat) (v1 : Int32) : Option ((Int32 ⊕ String) × HP) := (kO 7 h v0).bind fun _ => b_X7_save_0 v0 v1 h
theorem w_X7_save_9 {l : Launch} {X : SCR} {Q : PST} {bc bs : Nat} {res : (Int32 ⊕ String) × HP} {h : HP} (hQ : ∀ sz', Q (outT res.1) res.2 sz') (hlt : l.stackTraces = false) (hX2 : X.2 = some []) (hbc : 1 ≤ bc) (hbs : 6 ≤ bs) {sz : Nat} (hf : b_X7_save_9 h  = some res) : SP l X M_X7_save 9 [] [] h sz bc bs Q := by
  rw [b_X7_save_9] at hf
  obtain rfl := Option.some.inj hf
  exact sp_throwSW (pc := 9) tr_RX7_140_298_144 hlt hX2 dX7_save_9 dX7_save_12 dX7_save_13 dX7_save_16 dX7_save_19 (by decide) (Nat.le_of_ble_eq_true rfl) hbc hbs hQ

theorem w_X7_save_0 {l : Launch} {X : SCR} {Q : PST} {bc bs : Nat} {res : (Int32 ⊕ String) × HP} {h : HP} (hQ : ∀ sz', Q (outT res.1) res.2 sz') (hlt : l.stackTraces = false) (hX2 : X.2 = some []) (hbc : 1 ≤ bc) (hbs : 6 ≤ bs) {v0 : Nat} {v1 : Int32} {sz : Nat} (hf : b_X7_save_0 v0 v1 h  = some res) : SP l X M_X7_save 0 [(0, .ref v0), (1, .int v1)] [] h sz bc bs Q := by
  rw [b_X7_save_0] at hf
  refine sp_iload_n (pc := 0) dX7_save_0 1 rfl ?_
  refine sp_if_lt (pc := 1) (tgt := 9) dX7_save_1 (by decide) (fun c1 => ?_) (fun c1 => ?_)
  · rw [if_pos c1] at hf
    exact sp_sub [] rfl (w_X7_save_9 hQ hlt hX2 hbc hbs hf)
  · rw [if_neg c1] at hf
    refine sp_iload_n (pc := 4) dX7_save_4 1 rfl ?_
    refine sp_iconst (pc := 5) (v := 2) dX7_save_5 (by decide) ?_
    refine sp_icmp_lt (pc := 6) (tgt := 20) dX7_save_6 (by decide) (fun c2 => ?_) (fun c2 => ?_)
    · rw [if_pos c2] at hf
      refine sp_aload_n (pc := 20) dX7_save_20 0 rfl ?_
      obtain ⟨x3, ex3, hf⟩ := ob hf
      refine sp_gR (pc := 21) fl_RX7_40 dX7_save_21 ex3 ?_
      refine sp_iload_n (pc := 24) dX7_save_24 1 rfl ?_
      obtain ⟨x4, ex4, hf⟩ := ob hf
      refine sp_aR4 (pc := 25) dX7_save_25 ex4 ?_
      refine sp_aload_n (pc := 26) dX7_save_26 0 rfl ?_
      obtain ⟨x5, ex5, hf⟩ := ob hf
      refine sp_gR (pc := 27) fl_RX7_24 dX7_save_27 ex5 ?_
      obtain ⟨y6, ey6, hf⟩ := ob hf
      obtain ⟨fsy6, hoy6⟩ := o_X3_become ey6
      refine sp_callVv (pc := 30) (z := M_X3_become) (As := [.ref x5]) (b := x4) (bc2 := bc) (bs2 := bs) (m_X3_become (Q := _) (fun sz => ⟨(), rfl, ?_⟩) ey6) rfl dX7_save_30 hoy6 rfl rfl ck_X7_save_270 (Nat.le_of_ble_eq_true rfl) rfl rfl rfl
      refine sp_aload_n (pc := 33) dX7_save_33 0 rfl ?_
      obtain ⟨x7, ex7, hf⟩ := ob hf
      refine sp_gR (pc := 34) fl_RX7_44 dX7_save_34 ex7 ?_
      refine sp_iload_n (pc := 37) dX7_save_37 1 rfl ?_
      refine sp_iconst (pc := 38) (v := 1) dX7_save_38 (by decide) ?_
      obtain ⟨h8, eh8, hf⟩ := ob hf
      refine sp_wZ (pc := 39) dX7_save_39 eh8 (fun sz => ?_)
      refine sp_aload_n (pc := 40) dX7_save_40 0 rfl ?_
      obtain ⟨x9, ex9, hf⟩ := ob hf
      refine sp_gR (pc := 41) fl_RX7_24 dX7_save_41 ex9 ?_
      obtain ⟨y10, ey10, hf⟩ := ob hf
      obtain ⟨fsy10, hoy10⟩ := o_X3_size ey10
      refine sp_callVi (pc := 44) (z := M_X3_size) (As := []) (b := x9) (bc2 := bc) (bs2 := bs) (m_X3_size (Q := _) (fun sz => ⟨y10, rfl, ?_⟩) ey10) rfl dX7_save_44 hoy10 rfl rfl ck_X7_save_111 (Nat.le_of_ble_eq_true rfl) rfl rfl rfl
      obtain rfl := Option.some.inj hf
      exact sp_ireturn (pc := 47) dX7_save_47 rfl rfl (hQ _)
    · rw [if_neg c2] at hf
      exact sp_sub [] rfl (w_X7_save_9 hQ hlt hX2 hbc hbs hf)

theorem o_X7_save {h : HP} {v0 : Nat} {v1 : Int32} {res : (Int32 ⊕ String) × HP} (hf : f_X7_save h v0 v1 = some res) : ∃ fs, h v0 = some (.inr (7, fs)) := by
  obtain ⟨u, eu, -⟩ := ob hf
  exact kO_spec eu

theorem m_X7_save {l : Launch} {Q : PST} {h : HP} {v0 : Nat} {v1 : Int32} {sz : Nat} {res : (Int32 ⊕ String) × HP} (hQ : ∀ sz', Q (outT res.1) res.2 sz') (hlt : l.stackTraces = false) (hf : f_X7_save h v0 v1 = some res) : MM l M_X7_save [.ref v0, .int v1] h sz Q := by
  obtain ⟨u, eu, hf⟩ := ob hf
  exact MM_of wok_X7_save (by decide +kernel) (Nat.le_of_ble_eq_true rfl) ((w_X7_save_0 hQ hlt rfl (by decide) (by decide) hf))

theorem dX7_restore_0 : decode (mB M_X7_restore) 0 = .ok (.iload_n 1, 1) := by decide +kernel
theorem dX7_restore_1 : decode (mB M_X7_restore) 1 = .ok (.ifCond .lt 8, 3) := by decide +kernel
theorem dX7_restore_4 : decode (mB M_X7_restore) 4 = .ok (.iload_n 1, 1) := by decide +kernel
theorem dX7_restore_5 : decode (mB M_X7_restore) 5 = .ok (.iconst 2, 1) := by decide +kernel
theorem dX7_restore_6 : decode (mB M_X7_restore) 6 = .ok (.if_icmp .lt 14, 3) := by decide +kernel
theorem dX7_restore_9 : decode (mB M_X7_restore) 9 = .ok (.new 140, 3) := by decide +kernel
theorem dX7_restore_12 : decode (mB M_X7_restore) 12 = .ok (.dup, 1) := by decide +kernel
theorem dX7_restore_13 : decode (mB M_X7_restore) 13 = .ok (.ldc_w 298, 3) := by decide +kernel
theorem dX7_restore_16 : decode (mB M_X7_restore) 16 = .ok (.invokespecial 144, 3) := by decide +kernel
theorem dX7_restore_19 : decode (mB M_X7_restore) 19 = .ok (.athrow, 1) := by decide +kernel
theorem dX7_restore_20 : decode (mB M_X7_restore) 20 = .ok (.aload_n 0, 1) := by decide +kernel
theorem dX7_restore_21 : decode (mB M_X7_restore) 21 = .ok (.getfield 44, 3) := by decide +kernel
theorem dX7_restore_24 : decode (mB M_X7_restore) 24 = .ok (.iload_n 1, 1) := by decide +kernel
theorem dX7_restore_25 : decode (mB M_X7_restore) 25 = .ok (.baload, 1) := by decide +kernel
theorem dX7_restore_26 : decode (mB M_X7_restore) 26 = .ok (.ifCond .ne 14, 3) := by decide +kernel
theorem dX7_restore_29 : decode (mB M_X7_restore) 29 = .ok (.new 66, 3) := by decide +kernel
theorem dX7_restore_32 : decode (mB M_X7_restore) 32 = .ok (.dup, 1) := by decide +kernel
theorem dX7_restore_33 : decode (mB M_X7_restore) 33 = .ok (.ldc_w 300, 3) := by decide +kernel
theorem dX7_restore_36 : decode (mB M_X7_restore) 36 = .ok (.invokespecial 70, 3) := by decide +kernel
theorem dX7_restore_39 : decode (mB M_X7_restore) 39 = .ok (.athrow, 1) := by decide +kernel
theorem dX7_restore_40 : decode (mB M_X7_restore) 40 = .ok (.aload_n 0, 1) := by decide +kernel
theorem dX7_restore_41 : decode (mB M_X7_restore) 41 = .ok (.getfield 24, 3) := by decide +kernel
theorem dX7_restore_44 : decode (mB M_X7_restore) 44 = .ok (.aload_n 0, 1) := by decide +kernel
theorem dX7_restore_45 : decode (mB M_X7_restore) 45 = .ok (.getfield 40, 3) := by decide +kernel
theorem dX7_restore_48 : decode (mB M_X7_restore) 48 = .ok (.iload_n 1, 1) := by decide +kernel
theorem dX7_restore_49 : decode (mB M_X7_restore) 49 = .ok (.aaload, 1) := by decide +kernel
theorem dX7_restore_50 : decode (mB M_X7_restore) 50 = .ok (.invokevirtual 270, 3) := by decide +kernel
theorem dX7_restore_53 : decode (mB M_X7_restore) 53 = .ok (.aload_n 0, 1) := by decide +kernel
theorem dX7_restore_54 : decode (mB M_X7_restore) 54 = .ok (.getfield 36, 3) := by decide +kernel
theorem dX7_restore_57 : decode (mB M_X7_restore) 57 = .ok (.invokevirtual 88, 3) := by decide +kernel
theorem dX7_restore_60 : decode (mB M_X7_restore) 60 = .ok (.aload_n 0, 1) := by decide +kernel
theorem dX7_restore_61 : decode (mB M_X7_restore) 61 = .ok (.getfield 24, 3) := by decide +kernel
theorem dX7_restore_64 : decode (mB M_X7_restore) 64 = .ok (.invokevirtual 111, 3) := by decide +kernel
theorem dX7_restore_67 : decode (mB M_X7_restore) 67 = .ok (.ireturn, 1) := by decide +kernel
def b_X7_restore_9 (h : HP) : Option ((Int32 ⊕ String) × HP) :=
  some (.inr "java/lang/IndexOutOfBoundsException", h)
def b_X7_restore_0 (v0 : Nat) (v1 : Int32) (h : HP) : Option ((Int32 ⊕ String) × HP) :=
  if v1 < 0 then b_X7_restore_9 h else if v1 < 2 then (gR 7 5 h v0).bind fun x3 => (aZ h x3 v1).bind fun x4 => if x4 = 0 then some (.inr "java/lang/IllegalStateException", h) else (gR 7 1 h v0).bind fun x6 => (gR 7 4 h v0).bind fun x7 => (aR 4 h x7 v1).bind fun x8 => (f_X3_become h x6 x8).bind fun y9 => (gR 7 3 y9 v0).bind fun x10 => (f_X1_forgetAll y9 x10).bind fun y11 => (gR 7 1 y11 v0).bind fun x12 => (f_X3_size y11 x12).bind fun y13 => some (.inl y13, y11) else b_X7_restore_9 h
def f_X7_restore (h : HP) (v0 : Nat) (v1 : Int32) : Option ((Int32 ⊕ String) × HP) := (kO 7 h v0).bind fun _ => b_X7_restore_0 v0 v1 h
theorem w_X7_restore_9 {l : Launch} {X : SCR} {Q : PST} {bc bs : Nat} {res : (Int32 ⊕ String) × HP} {h : HP} (hQ : ∀ sz', Q (outT res.1) res.2 sz') (hlt : l.stackTraces = false) (hX2 : X.2 = some []) (hbc : 1 ≤ bc) (hbs : 6 ≤ bs) {sz : Nat} (hf : b_X7_restore_9 h  = some res) : SP l X M_X7_restore 9 [] [] h sz bc bs Q := by
  rw [b_X7_restore_9] at hf
  obtain rfl := Option.some.inj hf
  exact sp_throwSW (pc := 9) tr_RX7_140_298_144 hlt hX2 dX7_restore_9 dX7_restore_12 dX7_restore_13 dX7_restore_16 dX7_restore_19 (by decide) (Nat.le_of_ble_eq_true rfl) hbc hbs hQ

theorem w_X7_restore_0 {l : Launch} {X : SCR} {Q : PST} {bc bs : Nat} {res : (Int32 ⊕ String) × HP} {h : HP} (hQ : ∀ sz', Q (outT res.1) res.2 sz') (hlt : l.stackTraces = false) (hX2 : X.2 = some []) (hbc : 1 ≤ bc) (hbs : 6 ≤ bs) {v0 : Nat} {v1 : Int32} {sz : Nat} (hf : b_X7_restore_0 v0 v1 h  = some res) : SP l X M_X7_restore 0 [(0, .ref v0), (1, .int v1)] [] h sz bc bs Q := by
  rw [b_X7_restore_0] at hf
  refine sp_iload_n (pc := 0) dX7_restore_0 1 rfl ?_
  refine sp_if_lt (pc := 1) (tgt := 9) dX7_restore_1 (by decide) (fun c1 => ?_) (fun c1 => ?_)
  · rw [if_pos c1] at hf
    exact sp_sub [] rfl (w_X7_restore_9 hQ hlt hX2 hbc hbs hf)
  · rw [if_neg c1] at hf
    refine sp_iload_n (pc := 4) dX7_restore_4 1 rfl ?_
    refine sp_iconst (pc := 5) (v := 2) dX7_restore_5 (by decide) ?_
    refine sp_icmp_lt (pc := 6) (tgt := 20) dX7_restore_6 (by decide) (fun c2 => ?_) (fun c2 => ?_)
    · rw [if_pos c2] at hf
      refine sp_aload_n (pc := 20) dX7_restore_20 0 rfl ?_
      obtain ⟨x3, ex3, hf⟩ := ob hf
      refine sp_gR (pc := 21) fl_RX7_44 dX7_restore_21 ex3 ?_
      refine sp_iload_n (pc := 24) dX7_restore_24 1 rfl ?_
      obtain ⟨x4, ex4, hf⟩ := ob hf
      refine sp_aZ (pc := 25) dX7_restore_25 ex4 ?_
      refine sp_if_ne (pc := 26) (tgt := 40) dX7_restore_26 (by decide) (fun c5 => ?_) (fun c5 => ?_)
      · rw [if_neg c5] at hf
        refine sp_aload_n (pc := 40) dX7_restore_40 0 rfl ?_
        obtain ⟨x6, ex6, hf⟩ := ob hf
        refine sp_gR (pc := 41) fl_RX7_24 dX7_restore_41 ex6 ?_
        refine sp_aload_n (pc := 44) dX7_restore_44 0 rfl ?_
        obtain ⟨x7, ex7, hf⟩ := ob hf
        refine sp_gR (pc := 45) fl_RX7_40 dX7_restore_45 ex7 ?_
        refine sp_iload_n (pc := 48) dX7_restore_48 1 rfl ?_
        obtain ⟨x8, ex8, hf⟩ := ob hf
        refine sp_aR4 (pc := 49) dX7_restore_49 ex8 ?_
        obtain ⟨y9, ey9, hf⟩ := ob hf
        obtain ⟨fsy9, hoy9⟩ := o_X3_become ey9
        refine sp_callVv (pc := 50) (z := M_X3_become) (As := [.ref x8]) (b := x6) (bc2 := bc) (bs2 := bs) (m_X3_become (Q := _) (fun sz => ⟨(), rfl, ?_⟩) ey9) rfl dX7_restore_50 hoy9 rfl rfl ck_X7_restore_270 (Nat.le_of_ble_eq_true rfl) rfl rfl rfl
        refine sp_aload_n (pc := 53) dX7_restore_53 0 rfl ?_
        obtain ⟨x10, ex10, hf⟩ := ob hf
        refine sp_gR (pc := 54) fl_RX7_36 dX7_restore_54 ex10 ?_
        obtain ⟨y11, ey11, hf⟩ := ob hf
        obtain ⟨fsy11, hoy11⟩ := o_X1_forgetAll ey11
        refine sp_callVv (pc := 57) (z := M_X1_forgetAll) (As := []) (b := x10) (bc2 := bc) (bs2 := bs) (m_X1_forgetAll (Q := _) (fun sz => ⟨(), rfl, ?_⟩) ey11) rfl dX7_restore_57 hoy11 rfl rfl ck_X7_restore_88 (Nat.le_of_ble_eq_true rfl) rfl rfl rfl
        refine sp_aload_n (pc := 60) dX7_restore_60 0 rfl ?_
        obtain ⟨x12, ex12, hf⟩ := ob hf
        refine sp_gR (pc := 61) fl_RX7_24 dX7_restore_61 ex12 ?_
        obtain ⟨y13, ey13, hf⟩ := ob hf
        obtain ⟨fsy13, hoy13⟩ := o_X3_size ey13
        refine sp_callVi (pc := 64) (z := M_X3_size) (As := []) (b := x12) (bc2 := bc) (bs2 := bs) (m_X3_size (Q := _) (fun sz => ⟨y13, rfl, ?_⟩) ey13) rfl dX7_restore_64 hoy13 rfl rfl ck_X7_restore_111 (Nat.le_of_ble_eq_true rfl) rfl rfl rfl
        obtain rfl := Option.some.inj hf
        exact sp_ireturn (pc := 67) dX7_restore_67 rfl rfl (hQ _)
      · rw [if_pos c5] at hf
        obtain rfl := Option.some.inj hf
        exact sp_throwSW (pc := 29) tr_RX7_66_300_70 hlt hX2 dX7_restore_29 dX7_restore_32 dX7_restore_33 dX7_restore_36 dX7_restore_39 (by decide) (Nat.le_of_ble_eq_true rfl) hbc hbs hQ
    · rw [if_neg c2] at hf
      exact sp_sub [] rfl (w_X7_restore_9 hQ hlt hX2 hbc hbs hf)

theorem o_X7_restore {h : HP} {v0 : Nat} {v1 : Int32} {res : (Int32 ⊕ String) × HP} (hf : f_X7_restore h v0 v1 = some res) : ∃ fs, h v0 = some (.inr (7, fs)) := by
  obtain ⟨u, eu, -⟩ := ob hf
  exact kO_spec eu

theorem m_X7_restore {l : Launch} {Q : PST} {h : HP} {v0 : Nat} {v1 : Int32} {sz : Nat} {res : (Int32 ⊕ String) × HP} (hQ : ∀ sz', Q (outT res.1) res.2 sz') (hlt : l.stackTraces = false) (hf : f_X7_restore h v0 v1 = some res) : MM l M_X7_restore [.ref v0, .int v1] h sz Q := by
  obtain ⟨u, eu, hf⟩ := ob hf
  exact MM_of wok_X7_restore (by decide +kernel) (Nat.le_of_ble_eq_true rfl) ((w_X7_restore_0 hQ hlt rfl (by decide) (by decide) hf))

