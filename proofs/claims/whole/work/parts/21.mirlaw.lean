def sw {α : Type} (o : Int32 ⊕ String) (f : Int32 → Option α) (g : String → Option α) : Option α := match o with
  | .inl r => f r
  | .inr E => g E
def sL (L : Nat) (xs : Nat → Int32) (i : Int32) : Option Int32 := if i < 0 ∨ L ≤ i.toNatClampNeg then none else some (xs i.toNatClampNeg)
theorem sL_spec {L : Nat} {xs : Nat → Int32} {i x : Int32} (e : sL L xs i = some x) : vp_in i L ∧ xs i.toNatClampNeg = x := by
  unfold sL at e
  split at e
  · cases e
  · rename_i hc
    exact ⟨hc, Option.some.inj e⟩
theorem dX7_run_0 : decode (mB M_X7_run) 0 = .ok (.aload_n 0, 1) := by decide +kernel
theorem dX7_run_1 : decode (mB M_X7_run) 1 = .ok (.getfield 24, 3) := by decide +kernel
theorem dX7_run_4 : decode (mB M_X7_run) 4 = .ok (.iload_n 1, 1) := by decide +kernel
theorem dX7_run_5 : decode (mB M_X7_run) 5 = .ok (.invokevirtual 151, 3) := by decide +kernel
theorem dX7_run_8 : decode (mB M_X7_run) 8 = .ok (.ifCond .ne 13, 3) := by decide +kernel
theorem dX7_run_11 : decode (mB M_X7_run) 11 = .ok (.new 140, 3) := by decide +kernel
theorem dX7_run_14 : decode (mB M_X7_run) 14 = .ok (.dup, 1) := by decide +kernel
theorem dX7_run_15 : decode (mB M_X7_run) 15 = .ok (.ldc 154, 2) := by decide +kernel
theorem dX7_run_17 : decode (mB M_X7_run) 17 = .ok (.invokespecial 144, 3) := by decide +kernel
theorem dX7_run_20 : decode (mB M_X7_run) 20 = .ok (.athrow, 1) := by decide +kernel
theorem dX7_run_21 : decode (mB M_X7_run) 21 = .ok (.iload_n 2, 1) := by decide +kernel
theorem dX7_run_22 : decode (mB M_X7_run) 22 = .ok (.tableswitch 170 0 4 #[34, 58, 91, 125, 161], 34) := by decide +kernel
theorem dX7_run_56 : decode (mB M_X7_run) 56 = .ok (.aload_n 0, 1) := by decide +kernel
theorem dX7_run_57 : decode (mB M_X7_run) 57 = .ok (.getfield 24, 3) := by decide +kernel
theorem dX7_run_60 : decode (mB M_X7_run) 60 = .ok (.aload_n 0, 1) := by decide +kernel
theorem dX7_run_61 : decode (mB M_X7_run) 61 = .ok (.getfield 24, 3) := by decide +kernel
theorem dX7_run_64 : decode (mB M_X7_run) 64 = .ok (.iload_n 1, 1) := by decide +kernel
theorem dX7_run_65 : decode (mB M_X7_run) 65 = .ok (.invokevirtual 156, 3) := by decide +kernel
theorem dX7_run_68 : decode (mB M_X7_run) 68 = .ok (.aload_n 0, 1) := by decide +kernel
theorem dX7_run_69 : decode (mB M_X7_run) 69 = .ok (.getfield 24, 3) := by decide +kernel
theorem dX7_run_72 : decode (mB M_X7_run) 72 = .ok (.iload_n 1, 1) := by decide +kernel
theorem dX7_run_73 : decode (mB M_X7_run) 73 = .ok (.invokevirtual 159, 3) := by decide +kernel
theorem dX7_run_76 : decode (mB M_X7_run) 76 = .ok (.invokevirtual 114, 3) := by decide +kernel
theorem dX7_run_79 : decode (mB M_X7_run) 79 = .ok (.ireturn, 1) := by decide +kernel
theorem dX7_run_80 : decode (mB M_X7_run) 80 = .ok (.aload_n 0, 1) := by decide +kernel
theorem dX7_run_81 : decode (mB M_X7_run) 81 = .ok (.getfield 24, 3) := by decide +kernel
theorem dX7_run_84 : decode (mB M_X7_run) 84 = .ok (.iload_n 1, 1) := by decide +kernel
theorem dX7_run_85 : decode (mB M_X7_run) 85 = .ok (.invokevirtual 101, 3) := by decide +kernel
theorem dX7_run_88 : decode (mB M_X7_run) 88 = .ok (.aload_n 0, 1) := by decide +kernel
theorem dX7_run_89 : decode (mB M_X7_run) 89 = .ok (.getfield 24, 3) := by decide +kernel
theorem dX7_run_92 : decode (mB M_X7_run) 92 = .ok (.aload_n 0, 1) := by decide +kernel
theorem dX7_run_93 : decode (mB M_X7_run) 93 = .ok (.getfield 24, 3) := by decide +kernel
theorem dX7_run_96 : decode (mB M_X7_run) 96 = .ok (.iload_n 1, 1) := by decide +kernel
theorem dX7_run_97 : decode (mB M_X7_run) 97 = .ok (.invokevirtual 156, 3) := by decide +kernel
theorem dX7_run_100 : decode (mB M_X7_run) 100 = .ok (.aload_n 0, 1) := by decide +kernel
theorem dX7_run_101 : decode (mB M_X7_run) 101 = .ok (.getfield 24, 3) := by decide +kernel
theorem dX7_run_104 : decode (mB M_X7_run) 104 = .ok (.iload_n 1, 1) := by decide +kernel
theorem dX7_run_105 : decode (mB M_X7_run) 105 = .ok (.invokevirtual 159, 3) := by decide +kernel
theorem dX7_run_108 : decode (mB M_X7_run) 108 = .ok (.invokevirtual 114, 3) := by decide +kernel
theorem dX7_run_111 : decode (mB M_X7_run) 111 = .ok (.isub, 1) := by decide +kernel
theorem dX7_run_112 : decode (mB M_X7_run) 112 = .ok (.ireturn, 1) := by decide +kernel
theorem dX7_run_113 : decode (mB M_X7_run) 113 = .ok (.aload_n 0, 1) := by decide +kernel
theorem dX7_run_114 : decode (mB M_X7_run) 114 = .ok (.getfield 24, 3) := by decide +kernel
theorem dX7_run_117 : decode (mB M_X7_run) 117 = .ok (.iload_n 1, 1) := by decide +kernel
theorem dX7_run_118 : decode (mB M_X7_run) 118 = .ok (.invokevirtual 101, 3) := by decide +kernel
theorem dX7_run_121 : decode (mB M_X7_run) 121 = .ok (.ifCond .ne 7, 3) := by decide +kernel
theorem dX7_run_124 : decode (mB M_X7_run) 124 = .ok (.iconst (-1), 1) := by decide +kernel
theorem dX7_run_125 : decode (mB M_X7_run) 125 = .ok (.goto 21, 3) := by decide +kernel
theorem dX7_run_128 : decode (mB M_X7_run) 128 = .ok (.aload_n 0, 1) := by decide +kernel
theorem dX7_run_129 : decode (mB M_X7_run) 129 = .ok (.getfield 24, 3) := by decide +kernel
theorem dX7_run_132 : decode (mB M_X7_run) 132 = .ok (.getfield 162, 3) := by decide +kernel
theorem dX7_run_135 : decode (mB M_X7_run) 135 = .ok (.aload_n 0, 1) := by decide +kernel
theorem dX7_run_136 : decode (mB M_X7_run) 136 = .ok (.getfield 24, 3) := by decide +kernel
theorem dX7_run_139 : decode (mB M_X7_run) 139 = .ok (.iload_n 1, 1) := by decide +kernel
theorem dX7_run_140 : decode (mB M_X7_run) 140 = .ok (.invokevirtual 156, 3) := by decide +kernel
theorem dX7_run_143 : decode (mB M_X7_run) 143 = .ok (.invokevirtual 166, 3) := by decide +kernel
theorem dX7_run_146 : decode (mB M_X7_run) 146 = .ok (.ireturn, 1) := by decide +kernel
theorem dX7_run_147 : decode (mB M_X7_run) 147 = .ok (.aload_n 0, 1) := by decide +kernel
theorem dX7_run_148 : decode (mB M_X7_run) 148 = .ok (.getfield 24, 3) := by decide +kernel
theorem dX7_run_151 : decode (mB M_X7_run) 151 = .ok (.iload_n 1, 1) := by decide +kernel
theorem dX7_run_152 : decode (mB M_X7_run) 152 = .ok (.invokevirtual 101, 3) := by decide +kernel
theorem dX7_run_155 : decode (mB M_X7_run) 155 = .ok (.ifCond .ne 7, 3) := by decide +kernel
theorem dX7_run_158 : decode (mB M_X7_run) 158 = .ok (.iconst (-1), 1) := by decide +kernel
theorem dX7_run_159 : decode (mB M_X7_run) 159 = .ok (.goto 23, 3) := by decide +kernel
theorem dX7_run_162 : decode (mB M_X7_run) 162 = .ok (.aload_n 0, 1) := by decide +kernel
theorem dX7_run_163 : decode (mB M_X7_run) 163 = .ok (.getfield 24, 3) := by decide +kernel
theorem dX7_run_166 : decode (mB M_X7_run) 166 = .ok (.getfield 162, 3) := by decide +kernel
theorem dX7_run_169 : decode (mB M_X7_run) 169 = .ok (.aload_n 0, 1) := by decide +kernel
theorem dX7_run_170 : decode (mB M_X7_run) 170 = .ok (.getfield 24, 3) := by decide +kernel
theorem dX7_run_173 : decode (mB M_X7_run) 173 = .ok (.iload_n 1, 1) := by decide +kernel
theorem dX7_run_174 : decode (mB M_X7_run) 174 = .ok (.invokevirtual 159, 3) := by decide +kernel
theorem dX7_run_177 : decode (mB M_X7_run) 177 = .ok (.iconst 1, 1) := by decide +kernel
theorem dX7_run_178 : decode (mB M_X7_run) 178 = .ok (.isub, 1) := by decide +kernel
theorem dX7_run_179 : decode (mB M_X7_run) 179 = .ok (.invokevirtual 166, 3) := by decide +kernel
theorem dX7_run_182 : decode (mB M_X7_run) 182 = .ok (.ireturn, 1) := by decide +kernel
theorem dX7_run_183 : decode (mB M_X7_run) 183 = .ok (.aload_n 0, 1) := by decide +kernel
theorem dX7_run_184 : decode (mB M_X7_run) 184 = .ok (.getfield 24, 3) := by decide +kernel
theorem dX7_run_187 : decode (mB M_X7_run) 187 = .ok (.iload_n 1, 1) := by decide +kernel
theorem dX7_run_188 : decode (mB M_X7_run) 188 = .ok (.invokevirtual 171, 3) := by decide +kernel
theorem dX7_run_191 : decode (mB M_X7_run) 191 = .ok (.ireturn, 1) := by decide +kernel
theorem dX7_run_192 : decode (mB M_X7_run) 192 = .ok (.new 55, 3) := by decide +kernel
theorem dX7_run_195 : decode (mB M_X7_run) 195 = .ok (.dup, 1) := by decide +kernel
theorem dX7_run_196 : decode (mB M_X7_run) 196 = .ok (.ldc 174, 2) := by decide +kernel
theorem dX7_run_198 : decode (mB M_X7_run) 198 = .ok (.invokespecial 59, 3) := by decide +kernel
theorem dX7_run_201 : decode (mB M_X7_run) 201 = .ok (.athrow, 1) := by decide +kernel
def b_X7_run_0 (h : HP) (v0 : Nat) (v1 : Int32) (v2 : Int32) : Option (Int32 ⊕ String) :=
  (gR 7 1 h v0).bind fun x1 => (f_X3_isPlace h x1 v1).bind fun y2 => if y2 = 0 then some (.inr "java/lang/IndexOutOfBoundsException") else if v2 = 0 then (gR 7 1 h v0).bind fun x5 => (gR 7 1 h v0).bind fun x6 => (f_X3_startOf h x6 v1).bind fun y7 => (gR 7 1 h v0).bind fun x8 => (f_X3_endOf h x8 v1).bind fun y9 => (f_X3_entriesIn h x5 y7 y9).bind fun y10 => some (.inl y10) else if v2 = 1 then (gR 7 1 h v0).bind fun x12 => (f_X3_sizeOf h x12 v1).bind fun y13 => (gR 7 1 h v0).bind fun x14 => (gR 7 1 h v0).bind fun x15 => (f_X3_startOf h x15 v1).bind fun y16 => (gR 7 1 h v0).bind fun x17 => (f_X3_endOf h x17 v1).bind fun y18 => (f_X3_entriesIn h x14 y16 y18).bind fun y19 => some (.inl (y13 - y19)) else if v2 = 2 then (gR 7 1 h v0).bind fun x21 => (f_X3_sizeOf h x21 v1).bind fun y22 => if y22 = 0 then some (.inl (-1)) else (gR 7 1 h v0).bind fun x24 => (gR 3 1 h x24).bind fun x25 => (gR 7 1 h v0).bind fun x26 => (f_X3_startOf h x26 v1).bind fun y27 => (f_X6_numberAt h x25 y27).bind fun y28 => some (.inl y28) else if v2 = 3 then (gR 7 1 h v0).bind fun x30 => (f_X3_sizeOf h x30 v1).bind fun y31 => if y31 = 0 then some (.inl (-1)) else (gR 7 1 h v0).bind fun x33 => (gR 3 1 h x33).bind fun x34 => (gR 7 1 h v0).bind fun x35 => (f_X3_endOf h x35 v1).bind fun y36 => (f_X6_numberAt h x34 (y36 - 1)).bind fun y37 => some (.inl y37) else if v2 = 4 then (gR 7 1 h v0).bind fun x39 => (f_X3_keysIn h x39 v1).bind fun y40 => some (.inl y40) else some (.inr "java/lang/IllegalArgumentException")
def f_X7_run (h : HP) (v0 : Nat) (v1 : Int32) (v2 : Int32) : Option (Int32 ⊕ String) := (kO 7 h v0).bind fun _ => b_X7_run_0 h v0 v1 v2
theorem w_X7_run_0 {l : Launch} {X : SCR} {Q : PST} {bc bs : Nat} {res : Int32 ⊕ String} {h : HP} (hQ : ∀ sz', Q (outT res) h sz') (hlt : l.stackTraces = false) (hX2 : X.2 = some []) (hbc : 1 ≤ bc) (hbs : 6 ≤ bs) {v0 : Nat} {v1 : Int32} {v2 : Int32} {sz : Nat} (hf : b_X7_run_0 h v0 v1 v2  = some res) : SP l X M_X7_run 0 [(0, .ref v0), (1, .int v1), (2, .int v2)] [] h sz bc bs Q := by
  rw [b_X7_run_0] at hf
  refine sp_aload_n (pc := 0) dX7_run_0 0 rfl ?_
  obtain ⟨x1, ex1, hf⟩ := ob hf
  refine sp_gR (pc := 1) fl_RX7_24 dX7_run_1 ex1 ?_
  refine sp_iload_n (pc := 4) dX7_run_4 1 rfl ?_
  obtain ⟨y2, ey2, hf⟩ := ob hf
  obtain ⟨fsy2, hoy2⟩ := o_X3_isPlace ey2
  refine sp_callVi (pc := 5) (z := M_X3_isPlace) (As := [.int v1]) (b := x1) (bc2 := bc) (bs2 := bs) (m_X3_isPlace (Q := _) (fun sz => ⟨y2, rfl, ?_⟩) ey2) rfl dX7_run_5 hoy2 rfl rfl ck_X7_run_151 (Nat.le_of_ble_eq_true rfl) rfl rfl rfl
  refine sp_if_ne (pc := 8) (tgt := 21) dX7_run_8 (by decide) (fun c3 => ?_) (fun c3 => ?_)
  · rw [if_neg c3] at hf
    refine sp_iload_n (pc := 21) dX7_run_21 2 rfl ?_
    by_cases c4 : v2 = 0
    · rw [if_pos c4] at hf
      refine sp_tableIn (pc := 22) (off := 34) (tgt := 56) dX7_run_22 (by rw [c4]; decide) (by rw [c4]; decide) (by rw [c4]; rfl) (by decide) ?_
      refine sp_aload_n (pc := 56) dX7_run_56 0 rfl ?_
      obtain ⟨x5, ex5, hf⟩ := ob hf
      refine sp_gR (pc := 57) fl_RX7_24 dX7_run_57 ex5 ?_
      refine sp_aload_n (pc := 60) dX7_run_60 0 rfl ?_
      obtain ⟨x6, ex6, hf⟩ := ob hf
      refine sp_gR (pc := 61) fl_RX7_24 dX7_run_61 ex6 ?_
      refine sp_iload_n (pc := 64) dX7_run_64 1 rfl ?_
      obtain ⟨y7, ey7, hf⟩ := ob hf
      obtain ⟨fsy7, hoy7⟩ := o_X3_startOf ey7
      refine sp_callVi (pc := 65) (z := M_X3_startOf) (As := [.int v1]) (b := x6) (bc2 := bc) (bs2 := bs) (m_X3_startOf (Q := _) (fun sz => ⟨y7, rfl, ?_⟩) ey7) rfl dX7_run_65 hoy7 rfl rfl ck_X7_run_156 (Nat.le_of_ble_eq_true rfl) rfl rfl rfl
      refine sp_aload_n (pc := 68) dX7_run_68 0 rfl ?_
      obtain ⟨x8, ex8, hf⟩ := ob hf
      refine sp_gR (pc := 69) fl_RX7_24 dX7_run_69 ex8 ?_
      refine sp_iload_n (pc := 72) dX7_run_72 1 rfl ?_
      obtain ⟨y9, ey9, hf⟩ := ob hf
      obtain ⟨fsy9, hoy9⟩ := o_X3_endOf ey9
      refine sp_callVi (pc := 73) (z := M_X3_endOf) (As := [.int v1]) (b := x8) (bc2 := bc) (bs2 := bs) (m_X3_endOf (Q := _) (fun sz => ⟨y9, rfl, ?_⟩) ey9) rfl dX7_run_73 hoy9 rfl rfl ck_X7_run_159 (Nat.le_of_ble_eq_true rfl) rfl rfl rfl
      obtain ⟨y10, ey10, hf⟩ := ob hf
      obtain ⟨fsy10, hoy10⟩ := o_X3_entriesIn ey10
      refine sp_callVi (pc := 76) (z := M_X3_entriesIn) (As := [.int y7, .int y9]) (b := x5) (bc2 := bc) (bs2 := bs) (m_X3_entriesIn (Q := _) (fun sz => ⟨y10, rfl, ?_⟩) ey10) rfl dX7_run_76 hoy10 rfl rfl ck_X7_run_114 (Nat.le_of_ble_eq_true rfl) rfl rfl rfl
      obtain rfl := Option.some.inj hf
      exact sp_ireturn (pc := 79) dX7_run_79 rfl rfl (hQ _)
    rw [if_neg c4] at hf
    by_cases c11 : v2 = 1
    · rw [if_pos c11] at hf
      refine sp_tableIn (pc := 22) (off := 58) (tgt := 80) dX7_run_22 (by rw [c11]; decide) (by rw [c11]; decide) (by rw [c11]; rfl) (by decide) ?_
      refine sp_aload_n (pc := 80) dX7_run_80 0 rfl ?_
      obtain ⟨x12, ex12, hf⟩ := ob hf
      refine sp_gR (pc := 81) fl_RX7_24 dX7_run_81 ex12 ?_
      refine sp_iload_n (pc := 84) dX7_run_84 1 rfl ?_
      obtain ⟨y13, ey13, hf⟩ := ob hf
      obtain ⟨fsy13, hoy13⟩ := o_X3_sizeOf ey13
      refine sp_callVi (pc := 85) (z := M_X3_sizeOf) (As := [.int v1]) (b := x12) (bc2 := bc) (bs2 := bs) (m_X3_sizeOf (Q := _) (fun sz => ⟨y13, rfl, ?_⟩) ey13) rfl dX7_run_85 hoy13 rfl rfl ck_X7_run_101 (Nat.le_of_ble_eq_true rfl) rfl rfl rfl
      refine sp_aload_n (pc := 88) dX7_run_88 0 rfl ?_
      obtain ⟨x14, ex14, hf⟩ := ob hf
      refine sp_gR (pc := 89) fl_RX7_24 dX7_run_89 ex14 ?_
      refine sp_aload_n (pc := 92) dX7_run_92 0 rfl ?_
      obtain ⟨x15, ex15, hf⟩ := ob hf
      refine sp_gR (pc := 93) fl_RX7_24 dX7_run_93 ex15 ?_
      refine sp_iload_n (pc := 96) dX7_run_96 1 rfl ?_
      obtain ⟨y16, ey16, hf⟩ := ob hf
      obtain ⟨fsy16, hoy16⟩ := o_X3_startOf ey16
      refine sp_callVi (pc := 97) (z := M_X3_startOf) (As := [.int v1]) (b := x15) (bc2 := bc) (bs2 := bs) (m_X3_startOf (Q := _) (fun sz => ⟨y16, rfl, ?_⟩) ey16) rfl dX7_run_97 hoy16 rfl rfl ck_X7_run_156 (Nat.le_of_ble_eq_true rfl) rfl rfl rfl
      refine sp_aload_n (pc := 100) dX7_run_100 0 rfl ?_
      obtain ⟨x17, ex17, hf⟩ := ob hf
      refine sp_gR (pc := 101) fl_RX7_24 dX7_run_101 ex17 ?_
      refine sp_iload_n (pc := 104) dX7_run_104 1 rfl ?_
      obtain ⟨y18, ey18, hf⟩ := ob hf
      obtain ⟨fsy18, hoy18⟩ := o_X3_endOf ey18
      refine sp_callVi (pc := 105) (z := M_X3_endOf) (As := [.int v1]) (b := x17) (bc2 := bc) (bs2 := bs) (m_X3_endOf (Q := _) (fun sz => ⟨y18, rfl, ?_⟩) ey18) rfl dX7_run_105 hoy18 rfl rfl ck_X7_run_159 (Nat.le_of_ble_eq_true rfl) rfl rfl rfl
      obtain ⟨y19, ey19, hf⟩ := ob hf
      obtain ⟨fsy19, hoy19⟩ := o_X3_entriesIn ey19
      refine sp_callVi (pc := 108) (z := M_X3_entriesIn) (As := [.int y16, .int y18]) (b := x14) (bc2 := bc) (bs2 := bs) (m_X3_entriesIn (Q := _) (fun sz => ⟨y19, rfl, ?_⟩) ey19) rfl dX7_run_108 hoy19 rfl rfl ck_X7_run_114 (Nat.le_of_ble_eq_true rfl) rfl rfl rfl
      refine sp_isub (pc := 111) dX7_run_111 ?_
      obtain rfl := Option.some.inj hf
      exact sp_ireturn (pc := 112) dX7_run_112 rfl rfl (hQ _)
    rw [if_neg c11] at hf
    by_cases c20 : v2 = 2
    · rw [if_pos c20] at hf
      refine sp_tableIn (pc := 22) (off := 91) (tgt := 113) dX7_run_22 (by rw [c20]; decide) (by rw [c20]; decide) (by rw [c20]; rfl) (by decide) ?_
      refine sp_aload_n (pc := 113) dX7_run_113 0 rfl ?_
      obtain ⟨x21, ex21, hf⟩ := ob hf
      refine sp_gR (pc := 114) fl_RX7_24 dX7_run_114 ex21 ?_
      refine sp_iload_n (pc := 117) dX7_run_117 1 rfl ?_
      obtain ⟨y22, ey22, hf⟩ := ob hf
      obtain ⟨fsy22, hoy22⟩ := o_X3_sizeOf ey22
      refine sp_callVi (pc := 118) (z := M_X3_sizeOf) (As := [.int v1]) (b := x21) (bc2 := bc) (bs2 := bs) (m_X3_sizeOf (Q := _) (fun sz => ⟨y22, rfl, ?_⟩) ey22) rfl dX7_run_118 hoy22 rfl rfl ck_X7_run_101 (Nat.le_of_ble_eq_true rfl) rfl rfl rfl
      refine sp_if_ne (pc := 121) (tgt := 128) dX7_run_121 (by decide) (fun c23 => ?_) (fun c23 => ?_)
      · rw [if_neg c23] at hf
        refine sp_aload_n (pc := 128) dX7_run_128 0 rfl ?_
        obtain ⟨x24, ex24, hf⟩ := ob hf
        refine sp_gR (pc := 129) fl_RX7_24 dX7_run_129 ex24 ?_
        obtain ⟨x25, ex25, hf⟩ := ob hf
        refine sp_gR (pc := 132) fl_RX7_162 dX7_run_132 ex25 ?_
        refine sp_aload_n (pc := 135) dX7_run_135 0 rfl ?_
        obtain ⟨x26, ex26, hf⟩ := ob hf
        refine sp_gR (pc := 136) fl_RX7_24 dX7_run_136 ex26 ?_
        refine sp_iload_n (pc := 139) dX7_run_139 1 rfl ?_
        obtain ⟨y27, ey27, hf⟩ := ob hf
        obtain ⟨fsy27, hoy27⟩ := o_X3_startOf ey27
        refine sp_callVi (pc := 140) (z := M_X3_startOf) (As := [.int v1]) (b := x26) (bc2 := bc) (bs2 := bs) (m_X3_startOf (Q := _) (fun sz => ⟨y27, rfl, ?_⟩) ey27) rfl dX7_run_140 hoy27 rfl rfl ck_X7_run_156 (Nat.le_of_ble_eq_true rfl) rfl rfl rfl
        obtain ⟨y28, ey28, hf⟩ := ob hf
        obtain ⟨fsy28, hoy28⟩ := o_X6_numberAt ey28
        refine sp_callVi (pc := 143) (z := M_X6_numberAt) (As := [.int y27]) (b := x25) (bc2 := bc) (bs2 := bs) (m_X6_numberAt (Q := _) (fun sz => ⟨y28, rfl, ?_⟩) ey28) rfl dX7_run_143 hoy28 rfl rfl ck_X7_run_166 (Nat.le_of_ble_eq_true rfl) rfl rfl rfl
        obtain rfl := Option.some.inj hf
        exact sp_ireturn (pc := 146) dX7_run_146 rfl rfl (hQ _)
      · rw [if_pos c23] at hf
        refine sp_iconst (pc := 124) (v := (-1)) dX7_run_124 (by decide) ?_
        refine sp_goto (pc := 125) (tgt := 146) dX7_run_125 (by decide) ?_
        obtain rfl := Option.some.inj hf
        exact sp_ireturn (pc := 146) dX7_run_146 rfl rfl (hQ _)
    rw [if_neg c20] at hf
    by_cases c29 : v2 = 3
    · rw [if_pos c29] at hf
      refine sp_tableIn (pc := 22) (off := 125) (tgt := 147) dX7_run_22 (by rw [c29]; decide) (by rw [c29]; decide) (by rw [c29]; rfl) (by decide) ?_
      refine sp_aload_n (pc := 147) dX7_run_147 0 rfl ?_
      obtain ⟨x30, ex30, hf⟩ := ob hf
      refine sp_gR (pc := 148) fl_RX7_24 dX7_run_148 ex30 ?_
      refine sp_iload_n (pc := 151) dX7_run_151 1 rfl ?_
      obtain ⟨y31, ey31, hf⟩ := ob hf
      obtain ⟨fsy31, hoy31⟩ := o_X3_sizeOf ey31
      refine sp_callVi (pc := 152) (z := M_X3_sizeOf) (As := [.int v1]) (b := x30) (bc2 := bc) (bs2 := bs) (m_X3_sizeOf (Q := _) (fun sz => ⟨y31, rfl, ?_⟩) ey31) rfl dX7_run_152 hoy31 rfl rfl ck_X7_run_101 (Nat.le_of_ble_eq_true rfl) rfl rfl rfl
      refine sp_if_ne (pc := 155) (tgt := 162) dX7_run_155 (by decide) (fun c32 => ?_) (fun c32 => ?_)
      · rw [if_neg c32] at hf
        refine sp_aload_n (pc := 162) dX7_run_162 0 rfl ?_
        obtain ⟨x33, ex33, hf⟩ := ob hf
        refine sp_gR (pc := 163) fl_RX7_24 dX7_run_163 ex33 ?_
        obtain ⟨x34, ex34, hf⟩ := ob hf
        refine sp_gR (pc := 166) fl_RX7_162 dX7_run_166 ex34 ?_
        refine sp_aload_n (pc := 169) dX7_run_169 0 rfl ?_
        obtain ⟨x35, ex35, hf⟩ := ob hf
        refine sp_gR (pc := 170) fl_RX7_24 dX7_run_170 ex35 ?_
        refine sp_iload_n (pc := 173) dX7_run_173 1 rfl ?_
        obtain ⟨y36, ey36, hf⟩ := ob hf
        obtain ⟨fsy36, hoy36⟩ := o_X3_endOf ey36
        refine sp_callVi (pc := 174) (z := M_X3_endOf) (As := [.int v1]) (b := x35) (bc2 := bc) (bs2 := bs) (m_X3_endOf (Q := _) (fun sz => ⟨y36, rfl, ?_⟩) ey36) rfl dX7_run_174 hoy36 rfl rfl ck_X7_run_159 (Nat.le_of_ble_eq_true rfl) rfl rfl rfl
        refine sp_iconst (pc := 177) (v := 1) dX7_run_177 (by decide) ?_
        refine sp_isub (pc := 178) dX7_run_178 ?_
        obtain ⟨y37, ey37, hf⟩ := ob hf
        obtain ⟨fsy37, hoy37⟩ := o_X6_numberAt ey37
        refine sp_callVi (pc := 179) (z := M_X6_numberAt) (As := [.int (y36 - 1)]) (b := x34) (bc2 := bc) (bs2 := bs) (m_X6_numberAt (Q := _) (fun sz => ⟨y37, rfl, ?_⟩) ey37) rfl dX7_run_179 hoy37 rfl rfl ck_X7_run_166 (Nat.le_of_ble_eq_true rfl) rfl rfl rfl
        obtain rfl := Option.some.inj hf
        exact sp_ireturn (pc := 182) dX7_run_182 rfl rfl (hQ _)
      · rw [if_pos c32] at hf
        refine sp_iconst (pc := 158) (v := (-1)) dX7_run_158 (by decide) ?_
        refine sp_goto (pc := 159) (tgt := 182) dX7_run_159 (by decide) ?_
        obtain rfl := Option.some.inj hf
        exact sp_ireturn (pc := 182) dX7_run_182 rfl rfl (hQ _)
    rw [if_neg c29] at hf
    by_cases c38 : v2 = 4
    · rw [if_pos c38] at hf
      refine sp_tableIn (pc := 22) (off := 161) (tgt := 183) dX7_run_22 (by rw [c38]; decide) (by rw [c38]; decide) (by rw [c38]; rfl) (by decide) ?_
      refine sp_aload_n (pc := 183) dX7_run_183 0 rfl ?_
      obtain ⟨x39, ex39, hf⟩ := ob hf
      refine sp_gR (pc := 184) fl_RX7_24 dX7_run_184 ex39 ?_
      refine sp_iload_n (pc := 187) dX7_run_187 1 rfl ?_
      obtain ⟨y40, ey40, hf⟩ := ob hf
      obtain ⟨fsy40, hoy40⟩ := o_X3_keysIn ey40
      refine sp_callVi (pc := 188) (z := M_X3_keysIn) (As := [.int v1]) (b := x39) (bc2 := bc - 1) (bs2 := bs - 2) (m_X3_keysIn (Q := _) (fun sz => ⟨y40, rfl, ?_⟩) ey40) rfl dX7_run_188 hoy40 rfl rfl ck_X7_run_171 (Nat.le_of_ble_eq_true rfl) (show bc = bc - 1 + 1 by omega) (show bs = bs - 2 + 2 by omega) rfl
      obtain rfl := Option.some.inj hf
      exact sp_ireturn (pc := 191) dX7_run_191 rfl rfl (hQ _)
    rw [if_neg c38] at hf
    refine sp_tableOut (pc := 22) (tgt := 192) dX7_run_22 (tbl_out (fun i h1 h2 he => ?_)) (by decide) ?_
    · rcases (show i = 0 ∨ i = 1 ∨ i = 2 ∨ i = 3 ∨ i = 4 by omega) with rfl | rfl | rfl | rfl | rfl
      · exact c4 (Int32.toInt_inj.mp (he.trans (by decide)))
      · exact c11 (Int32.toInt_inj.mp (he.trans (by decide)))
      · exact c20 (Int32.toInt_inj.mp (he.trans (by decide)))
      · exact c29 (Int32.toInt_inj.mp (he.trans (by decide)))
      · exact c38 (Int32.toInt_inj.mp (he.trans (by decide)))
    obtain rfl := Option.some.inj hf
    exact sp_throwS (pc := 192) tr_RX7_55_174_59 hlt hX2 dX7_run_192 dX7_run_195 dX7_run_196 dX7_run_198 dX7_run_201 (by decide) (Nat.le_of_ble_eq_true rfl) hbc hbs hQ
  · rw [if_pos c3] at hf
    obtain rfl := Option.some.inj hf
    exact sp_throwS (pc := 11) tr_RX7_140_154_144 hlt hX2 dX7_run_11 dX7_run_14 dX7_run_15 dX7_run_17 dX7_run_20 (by decide) (Nat.le_of_ble_eq_true rfl) hbc hbs hQ

theorem o_X7_run {h : HP} {v0 : Nat} {v1 : Int32} {v2 : Int32} {res : Int32 ⊕ String} (hf : f_X7_run h v0 v1 v2 = some res) : ∃ fs, h v0 = some (.inr (7, fs)) := by
  obtain ⟨u, eu, -⟩ := ob hf
  exact kO_spec eu

theorem m_X7_run {l : Launch} {Q : PST} {h : HP} {v0 : Nat} {v1 : Int32} {v2 : Int32} {sz : Nat} {res : Int32 ⊕ String} (hQ : ∀ sz', Q (outT res) h sz') (hlt : l.stackTraces = false) (hf : f_X7_run h v0 v1 v2 = some res) : MM l M_X7_run [.ref v0, .int v1, .int v2] h sz Q := by
  obtain ⟨u, eu, hf⟩ := ob hf
  exact MM_of wok_X7_run (by decide +kernel) (Nat.le_of_ble_eq_true rfl) ((w_X7_run_0 hQ hlt rfl (by decide) (by decide) hf))

theorem dL_append_0 : decode (mB M_L_append) 0 = .ok (.aload_n 2, 1) := by decide +kernel
theorem dL_append_1 : decode (mB M_L_append) 1 = .ok (.iconst 0, 1) := by decide +kernel
theorem dL_append_2 : decode (mB M_L_append) 2 = .ok (.aload_n 0, 1) := by decide +kernel
theorem dL_append_3 : decode (mB M_L_append) 3 = .ok (.iload_n 1, 1) := by decide +kernel
theorem dL_append_4 : decode (mB M_L_append) 4 = .ok (.invokevirtual 7, 3) := by decide +kernel
theorem dL_append_7 : decode (mB M_L_append) 7 = .ok (.i2l, 1) := by decide +kernel
theorem dL_append_8 : decode (mB M_L_append) 8 = .ok (.lastore, 1) := by decide +kernel
theorem dL_append_9 : decode (mB M_L_append) 9 = .ok (.goto 9, 3) := by decide +kernel
theorem dL_append_12 : decode (mB M_L_append) 12 = .ok (.astore_n 3, 1) := by decide +kernel
theorem dL_append_13 : decode (mB M_L_append) 13 = .ok (.iconst 1, 1) := by decide +kernel
theorem dL_append_14 : decode (mB M_L_append) 14 = .ok (.ireturn, 1) := by decide +kernel
theorem dL_append_15 : decode (mB M_L_append) 15 = .ok (.astore_n 3, 1) := by decide +kernel
theorem dL_append_16 : decode (mB M_L_append) 16 = .ok (.iconst 2, 1) := by decide +kernel
theorem dL_append_17 : decode (mB M_L_append) 17 = .ok (.ireturn, 1) := by decide +kernel
theorem dL_append_18 : decode (mB M_L_append) 18 = .ok (.iconst 0, 1) := by decide +kernel
theorem dL_append_19 : decode (mB M_L_append) 19 = .ok (.ireturn, 1) := by decide +kernel
def b_L_append_0 (v0 : Nat) (v1 : Int32) (v2 : Nat) (h : HP) : Option (Int32 × HP) :=
  (f_X7_append h v0 v1).bind fun y1 => sw y1.1 (fun r => (wL y1.2 v2 0 (Int32.toInt64 r)).bind fun h2 => some (0, h2)) (fun E => if E = "java/lang/IllegalArgumentException" then some (1, y1.2) else if E = "java/lang/IllegalStateException" then some (2, y1.2) else none)
def f_L_append (h : HP) (v0 : Nat) (v1 : Int32) (v2 : Nat) : Option (Int32 × HP) := b_L_append_0 v0 v1 v2 h
theorem w_L_append_0 {l : Launch} {X : SCR} {Q : PST} {res : Int32 × HP} {h : HP} (hQ : ∀ sz', Q (.inl (some (.int res.1))) res.2 sz') (hlt : l.stackTraces = false) (hX : X.2 = some [(0, 9, 12, 13), (0, 9, 15, 15)]) {v0 : Nat} {v1 : Int32} {v2 : Nat} {sz : Nat} (hf : b_L_append_0 v0 v1 v2 h  = some res) : SP l X M_L_append 0 [(0, .ref v0), (1, .int v1), (2, .ref v2)] [] h sz 1 6 Q := by
  rw [b_L_append_0] at hf
  refine sp_aload_n (pc := 0) dL_append_0 2 rfl ?_
  refine sp_iconst (pc := 1) (v := 0) dL_append_1 (by decide) ?_
  refine sp_aload_n (pc := 2) dL_append_2 0 rfl ?_
  refine sp_iload_n (pc := 3) dL_append_3 1 rfl ?_
  obtain ⟨y1, ey1, hf⟩ := ob hf
  obtain ⟨fsy1, hoy1⟩ := o_X7_append ey1
  refine sp_callT (pc := 4) (hh9 := [(0, 9, 12, 13), (0, 9, 15, 15)]) (z := M_X7_append) (As := [.int v1]) (b := v0) (bc2 := 0) (bs2 := 0) (m_X7_append (Q := _) (fun sz => ?_) hlt ey1) hX rfl dL_append_4 hoy1 rfl rfl bk_475 ck_L_append_7 (Nat.le_of_ble_eq_true rfl) rfl rfl rfl
  rcases hsy1 : y1.1 with r | E
  · rw [hsy1] at hf
    simp only [sw] at hf
    refine Or.inl ⟨r, rfl, ?_⟩
    refine sp_i2l (pc := 7) dL_append_7 ?_
    obtain ⟨h2, eh2, hf⟩ := ob hf
    refine sp_wL (pc := 8) dL_append_8 eh2 (fun sz => ?_)
    refine sp_goto (pc := 9) (tgt := 18) dL_append_9 (by decide) ?_
    refine sp_iconst (pc := 18) (v := 0) dL_append_18 (by decide) ?_
    obtain rfl := Option.some.inj hf
    exact sp_ireturn (pc := 19) dL_append_19 rfl rfl (hQ _)
  · rw [hsy1] at hf
    simp only [sw] at hf
    by_cases c3 : E = "java/lang/IllegalArgumentException"
    · rw [if_pos c3] at hf
      subst c3
      refine Or.inr ⟨_, 12, rfl, hd_L_append_IllegalArgumentException, fun qx => ?_⟩
      refine sp_astore_n (pc := 12) (lv' := [(3, .ref qx), (0, .ref v0), (1, .int v1), (2, .ref v2)]) dL_append_12 (by decide) rfl ?_
      refine sp_iconst (pc := 13) (v := 1) dL_append_13 (by decide) ?_
      obtain rfl := Option.some.inj hf
      exact sp_ireturn (pc := 14) dL_append_14 rfl rfl (hQ _)
    rw [if_neg c3] at hf
    by_cases c4 : E = "java/lang/IllegalStateException"
    · rw [if_pos c4] at hf
      subst c4
      refine Or.inr ⟨_, 15, rfl, hd_L_append_IllegalStateException, fun qx => ?_⟩
      refine sp_astore_n (pc := 15) (lv' := [(3, .ref qx), (0, .ref v0), (1, .int v1), (2, .ref v2)]) dL_append_15 (by decide) rfl ?_
      refine sp_iconst (pc := 16) (v := 2) dL_append_16 (by decide) ?_
      obtain rfl := Option.some.inj hf
      exact sp_ireturn (pc := 17) dL_append_17 rfl rfl (hQ _)
    rw [if_neg c4] at hf
    cases hf

theorem m_L_append {l : Launch} {Q : PST} {h : HP} {v0 : Nat} {v1 : Int32} {v2 : Nat} {sz : Nat} {res : Int32 × HP} (hQ : ∀ sz', Q (.inl (some (.int res.1))) res.2 sz') (hlt : l.stackTraces = false) (hf : f_L_append h v0 v1 v2 = some res) : MMW l M_L_append [(0, 9, 12, 13), (0, 9, 15, 15)] [.ref v0, .int v1, .ref v2] h sz Q := by
  rw [f_L_append] at hf
  exact MMW_of wokW_L_append (by decide +kernel) (Nat.le_of_ble_eq_true rfl) (w_L_append_0 hQ hlt rfl hf)

theorem dL_load_0 : decode (mB M_L_load) 0 = .ok (.aload_n 1, 1) := by decide +kernel
theorem dL_load_1 : decode (mB M_L_load) 1 = .ok (.iconst 0, 1) := by decide +kernel
theorem dL_load_2 : decode (mB M_L_load) 2 = .ok (.aload_n 0, 1) := by decide +kernel
theorem dL_load_3 : decode (mB M_L_load) 3 = .ok (.invokevirtual 17, 3) := by decide +kernel
theorem dL_load_6 : decode (mB M_L_load) 6 = .ok (.i2l, 1) := by decide +kernel
theorem dL_load_7 : decode (mB M_L_load) 7 = .ok (.lastore, 1) := by decide +kernel
theorem dL_load_8 : decode (mB M_L_load) 8 = .ok (.goto 6, 3) := by decide +kernel
theorem dL_load_11 : decode (mB M_L_load) 11 = .ok (.astore_n 2, 1) := by decide +kernel
theorem dL_load_12 : decode (mB M_L_load) 12 = .ok (.iconst 1, 1) := by decide +kernel
theorem dL_load_13 : decode (mB M_L_load) 13 = .ok (.ireturn, 1) := by decide +kernel
theorem dL_load_14 : decode (mB M_L_load) 14 = .ok (.iconst 0, 1) := by decide +kernel
theorem dL_load_15 : decode (mB M_L_load) 15 = .ok (.ireturn, 1) := by decide +kernel
def b_L_load_0 (v0 : Nat) (v1 : Nat) (h : HP) : Option (Int32 × HP) :=
  (f_X7_load h v0).bind fun y1 => sw y1.1 (fun r => (wL y1.2 v1 0 (Int32.toInt64 r)).bind fun h2 => some (0, h2)) (fun E => if E = "java/lang/IllegalStateException" then some (1, y1.2) else none)
def f_L_load (h : HP) (v0 : Nat) (v1 : Nat) : Option (Int32 × HP) := b_L_load_0 v0 v1 h
theorem w_L_load_0 {l : Launch} {X : SCR} {Q : PST} {res : Int32 × HP} {h : HP} (hQ : ∀ sz', Q (.inl (some (.int res.1))) res.2 sz') (hlt : l.stackTraces = false) (hX : X.2 = some [(0, 8, 11, 15)]) {v0 : Nat} {v1 : Nat} {sz : Nat} (hf : b_L_load_0 v0 v1 h  = some res) : SP l X M_L_load 0 [(0, .ref v0), (1, .ref v1)] [] h sz 1 6 Q := by
  rw [b_L_load_0] at hf
  refine sp_aload_n (pc := 0) dL_load_0 1 rfl ?_
  refine sp_iconst (pc := 1) (v := 0) dL_load_1 (by decide) ?_
  refine sp_aload_n (pc := 2) dL_load_2 0 rfl ?_
  obtain ⟨y1, ey1, hf⟩ := ob hf
  obtain ⟨fsy1, hoy1⟩ := o_X7_load ey1
  refine sp_callT (pc := 3) (hh9 := [(0, 8, 11, 15)]) (z := M_X7_load) (As := []) (b := v0) (bc2 := 0) (bs2 := 0) (m_X7_load (Q := _) (fun sz => ?_) hlt ey1) hX rfl dL_load_3 hoy1 rfl rfl bk_574 ck_L_load_17 (Nat.le_of_ble_eq_true rfl) rfl rfl rfl
  rcases hsy1 : y1.1 with r | E
  · rw [hsy1] at hf
    simp only [sw] at hf
    refine Or.inl ⟨r, rfl, ?_⟩
    refine sp_i2l (pc := 6) dL_load_6 ?_
    obtain ⟨h2, eh2, hf⟩ := ob hf
    refine sp_wL (pc := 7) dL_load_7 eh2 (fun sz => ?_)
    refine sp_goto (pc := 8) (tgt := 14) dL_load_8 (by decide) ?_
    refine sp_iconst (pc := 14) (v := 0) dL_load_14 (by decide) ?_
    obtain rfl := Option.some.inj hf
    exact sp_ireturn (pc := 15) dL_load_15 rfl rfl (hQ _)
  · rw [hsy1] at hf
    simp only [sw] at hf
    by_cases c3 : E = "java/lang/IllegalStateException"
    · rw [if_pos c3] at hf
      subst c3
      refine Or.inr ⟨_, 11, rfl, hd_L_load_IllegalStateException, fun qx => ?_⟩
      refine sp_astore_n (pc := 11) (lv' := [(2, .ref qx), (0, .ref v0), (1, .ref v1)]) dL_load_11 (by decide) rfl ?_
      refine sp_iconst (pc := 12) (v := 1) dL_load_12 (by decide) ?_
      obtain rfl := Option.some.inj hf
      exact sp_ireturn (pc := 13) dL_load_13 rfl rfl (hQ _)
    rw [if_neg c3] at hf
    cases hf

theorem m_L_load {l : Launch} {Q : PST} {h : HP} {v0 : Nat} {v1 : Nat} {sz : Nat} {res : Int32 × HP} (hQ : ∀ sz', Q (.inl (some (.int res.1))) res.2 sz') (hlt : l.stackTraces = false) (hf : f_L_load h v0 v1 = some res) : MMW l M_L_load [(0, 8, 11, 15)] [.ref v0, .ref v1] h sz Q := by
  rw [f_L_load] at hf
  exact MMW_of wokW_L_load (by decide +kernel) (Nat.le_of_ble_eq_true rfl) (w_L_load_0 hQ hlt rfl hf)

theorem dL_about_0 : decode (mB M_L_about) 0 = .ok (.aload_n 2, 1) := by decide +kernel
theorem dL_about_1 : decode (mB M_L_about) 1 = .ok (.iconst 0, 1) := by decide +kernel
theorem dL_about_2 : decode (mB M_L_about) 2 = .ok (.aload_n 0, 1) := by decide +kernel
theorem dL_about_3 : decode (mB M_L_about) 3 = .ok (.iload_n 1, 1) := by decide +kernel
theorem dL_about_4 : decode (mB M_L_about) 4 = .ok (.invokevirtual 21, 3) := by decide +kernel
theorem dL_about_7 : decode (mB M_L_about) 7 = .ok (.i2l, 1) := by decide +kernel
theorem dL_about_8 : decode (mB M_L_about) 8 = .ok (.lastore, 1) := by decide +kernel
theorem dL_about_9 : decode (mB M_L_about) 9 = .ok (.goto 6, 3) := by decide +kernel
theorem dL_about_12 : decode (mB M_L_about) 12 = .ok (.astore_n 3, 1) := by decide +kernel
theorem dL_about_13 : decode (mB M_L_about) 13 = .ok (.iconst 1, 1) := by decide +kernel
theorem dL_about_14 : decode (mB M_L_about) 14 = .ok (.ireturn, 1) := by decide +kernel
theorem dL_about_15 : decode (mB M_L_about) 15 = .ok (.iconst 0, 1) := by decide +kernel
theorem dL_about_16 : decode (mB M_L_about) 16 = .ok (.ireturn, 1) := by decide +kernel
def b_L_about_0 (v0 : Nat) (v1 : Int32) (v2 : Nat) (h : HP) : Option (Int32 × HP) :=
  (f_X7_about h v0 v1).bind fun y1 => sw y1.1 (fun r => (wL y1.2 v2 0 (Int32.toInt64 r)).bind fun h2 => some (0, h2)) (fun E => if E = "java/lang/IllegalArgumentException" then some (1, y1.2) else none)
def f_L_about (h : HP) (v0 : Nat) (v1 : Int32) (v2 : Nat) : Option (Int32 × HP) := b_L_about_0 v0 v1 v2 h
theorem w_L_about_0 {l : Launch} {X : SCR} {Q : PST} {res : Int32 × HP} {h : HP} (hQ : ∀ sz', Q (.inl (some (.int res.1))) res.2 sz') (hlt : l.stackTraces = false) (hX : X.2 = some [(0, 9, 12, 13)]) {v0 : Nat} {v1 : Int32} {v2 : Nat} {sz : Nat} (hf : b_L_about_0 v0 v1 v2 h  = some res) : SP l X M_L_about 0 [(0, .ref v0), (1, .int v1), (2, .ref v2)] [] h sz 1 6 Q := by
  rw [b_L_about_0] at hf
  refine sp_aload_n (pc := 0) dL_about_0 2 rfl ?_
  refine sp_iconst (pc := 1) (v := 0) dL_about_1 (by decide) ?_
  refine sp_aload_n (pc := 2) dL_about_2 0 rfl ?_
  refine sp_iload_n (pc := 3) dL_about_3 1 rfl ?_
  obtain ⟨y1, ey1, hf⟩ := ob hf
  obtain ⟨fsy1, hoy1⟩ := o_X7_about ey1
  refine sp_callT (pc := 4) (hh9 := [(0, 9, 12, 13)]) (z := M_X7_about) (As := [.int v1]) (b := v0) (bc2 := 0) (bs2 := 0) (m_X7_about (Q := _) (fun sz => ?_) hlt ey1) hX rfl dL_about_4 hoy1 rfl rfl bk_656 ck_L_about_21 (Nat.le_of_ble_eq_true rfl) rfl rfl rfl
  rcases hsy1 : y1.1 with r | E
  · rw [hsy1] at hf
    simp only [sw] at hf
    refine Or.inl ⟨r, rfl, ?_⟩
    refine sp_i2l (pc := 7) dL_about_7 ?_
    obtain ⟨h2, eh2, hf⟩ := ob hf
    refine sp_wL (pc := 8) dL_about_8 eh2 (fun sz => ?_)
    refine sp_goto (pc := 9) (tgt := 15) dL_about_9 (by decide) ?_
    refine sp_iconst (pc := 15) (v := 0) dL_about_15 (by decide) ?_
    obtain rfl := Option.some.inj hf
    exact sp_ireturn (pc := 16) dL_about_16 rfl rfl (hQ _)
  · rw [hsy1] at hf
    simp only [sw] at hf
    by_cases c3 : E = "java/lang/IllegalArgumentException"
    · rw [if_pos c3] at hf
      subst c3
      refine Or.inr ⟨_, 12, rfl, hd_L_about_IllegalArgumentException, fun qx => ?_⟩
      refine sp_astore_n (pc := 12) (lv' := [(3, .ref qx), (0, .ref v0), (1, .int v1), (2, .ref v2)]) dL_about_12 (by decide) rfl ?_
      refine sp_iconst (pc := 13) (v := 1) dL_about_13 (by decide) ?_
      obtain rfl := Option.some.inj hf
      exact sp_ireturn (pc := 14) dL_about_14 rfl rfl (hQ _)
    rw [if_neg c3] at hf
    cases hf

theorem m_L_about {l : Launch} {Q : PST} {h : HP} {v0 : Nat} {v1 : Int32} {v2 : Nat} {sz : Nat} {res : Int32 × HP} (hQ : ∀ sz', Q (.inl (some (.int res.1))) res.2 sz') (hlt : l.stackTraces = false) (hf : f_L_about h v0 v1 v2 = some res) : MMW l M_L_about [(0, 9, 12, 13)] [.ref v0, .int v1, .ref v2] h sz Q := by
  rw [f_L_about] at hf
  exact MMW_of wokW_L_about (by decide +kernel) (Nat.le_of_ble_eq_true rfl) (w_L_about_0 hQ hlt rfl hf)

theorem dL_get_0 : decode (mB M_L_get) 0 = .ok (.aload_n 3, 1) := by decide +kernel
theorem dL_get_1 : decode (mB M_L_get) 1 = .ok (.iconst 0, 1) := by decide +kernel
theorem dL_get_2 : decode (mB M_L_get) 2 = .ok (.aload_n 0, 1) := by decide +kernel
theorem dL_get_3 : decode (mB M_L_get) 3 = .ok (.iload_n 1, 1) := by decide +kernel
theorem dL_get_4 : decode (mB M_L_get) 4 = .ok (.iload_n 2, 1) := by decide +kernel
theorem dL_get_5 : decode (mB M_L_get) 5 = .ok (.invokevirtual 24, 3) := by decide +kernel
theorem dL_get_8 : decode (mB M_L_get) 8 = .ok (.i2l, 1) := by decide +kernel
theorem dL_get_9 : decode (mB M_L_get) 9 = .ok (.lastore, 1) := by decide +kernel
theorem dL_get_10 : decode (mB M_L_get) 10 = .ok (.goto 7, 3) := by decide +kernel
theorem dL_get_13 : decode (mB M_L_get) 13 = .ok (.astore 4, 2) := by decide +kernel
theorem dL_get_15 : decode (mB M_L_get) 15 = .ok (.iconst 1, 1) := by decide +kernel
theorem dL_get_16 : decode (mB M_L_get) 16 = .ok (.ireturn, 1) := by decide +kernel
theorem dL_get_17 : decode (mB M_L_get) 17 = .ok (.iconst 0, 1) := by decide +kernel
theorem dL_get_18 : decode (mB M_L_get) 18 = .ok (.ireturn, 1) := by decide +kernel
def b_L_get_0 (v0 : Nat) (v1 : Int32) (v2 : Int32) (v3 : Nat) (h : HP) : Option (Int32 × HP) :=
  (f_X7_get h v0 v1 v2).bind fun y1 => sw y1 (fun r => (wL h v3 0 (Int32.toInt64 r)).bind fun h2 => some (0, h2)) (fun E => if E = "java/lang/IndexOutOfBoundsException" then some (1, h) else none)
def f_L_get (h : HP) (v0 : Nat) (v1 : Int32) (v2 : Int32) (v3 : Nat) : Option (Int32 × HP) := b_L_get_0 v0 v1 v2 v3 h
theorem w_L_get_0 {l : Launch} {X : SCR} {Q : PST} {res : Int32 × HP} {h : HP} (hQ : ∀ sz', Q (.inl (some (.int res.1))) res.2 sz') (hlt : l.stackTraces = false) (hX : X.2 = some [(0, 10, 13, 28)]) {v0 : Nat} {v1 : Int32} {v2 : Int32} {v3 : Nat} {sz : Nat} (hf : b_L_get_0 v0 v1 v2 v3 h  = some res) : SP l X M_L_get 0 [(0, .ref v0), (1, .int v1), (2, .int v2), (3, .ref v3)] [] h sz 1 6 Q := by
  rw [b_L_get_0] at hf
  refine sp_aload_n (pc := 0) dL_get_0 3 rfl ?_
  refine sp_iconst (pc := 1) (v := 0) dL_get_1 (by decide) ?_
  refine sp_aload_n (pc := 2) dL_get_2 0 rfl ?_
  refine sp_iload_n (pc := 3) dL_get_3 1 rfl ?_
  refine sp_iload_n (pc := 4) dL_get_4 2 rfl ?_
  obtain ⟨y1, ey1, hf⟩ := ob hf
  obtain ⟨fsy1, hoy1⟩ := o_X7_get ey1
  refine sp_callT (pc := 5) (hh9 := [(0, 10, 13, 28)]) (z := M_X7_get) (As := [.int v1, .int v2]) (b := v0) (bc2 := 0) (bs2 := 0) (m_X7_get (Q := _) (fun sz => ?_) hlt ey1) hX rfl dL_get_5 hoy1 rfl rfl bk_707 ck_L_get_24 (Nat.le_of_ble_eq_true rfl) rfl rfl rfl
  rcases y1 with r | E
  · skip
    simp only [sw] at hf
    refine Or.inl ⟨r, rfl, ?_⟩
    refine sp_i2l (pc := 8) dL_get_8 ?_
    obtain ⟨h2, eh2, hf⟩ := ob hf
    refine sp_wL (pc := 9) dL_get_9 eh2 (fun sz => ?_)
    refine sp_goto (pc := 10) (tgt := 17) dL_get_10 (by decide) ?_
    refine sp_iconst (pc := 17) (v := 0) dL_get_17 (by decide) ?_
    obtain rfl := Option.some.inj hf
    exact sp_ireturn (pc := 18) dL_get_18 rfl rfl (hQ _)
  · skip
    simp only [sw] at hf
    by_cases c3 : E = "java/lang/IndexOutOfBoundsException"
    · rw [if_pos c3] at hf
      subst c3
      refine Or.inr ⟨_, 13, rfl, hd_L_get_IndexOutOfBoundsException, fun qx => ?_⟩
      refine sp_astore (pc := 13) (lv' := [(4, .ref qx), (0, .ref v0), (1, .int v1), (2, .int v2), (3, .ref v3)]) dL_get_13 (by decide) rfl ?_
      refine sp_iconst (pc := 15) (v := 1) dL_get_15 (by decide) ?_
      obtain rfl := Option.some.inj hf
      exact sp_ireturn (pc := 16) dL_get_16 rfl rfl (hQ _)
    rw [if_neg c3] at hf
    cases hf

theorem m_L_get {l : Launch} {Q : PST} {h : HP} {v0 : Nat} {v1 : Int32} {v2 : Int32} {v3 : Nat} {sz : Nat} {res : Int32 × HP} (hQ : ∀ sz', Q (.inl (some (.int res.1))) res.2 sz') (hlt : l.stackTraces = false) (hf : f_L_get h v0 v1 v2 v3 = some res) : MMW l M_L_get [(0, 10, 13, 28)] [.ref v0, .int v1, .int v2, .ref v3] h sz Q := by
  rw [f_L_get] at hf
  exact MMW_of wokW_L_get (by decide +kernel) (Nat.le_of_ble_eq_true rfl) (w_L_get_0 hQ hlt rfl hf)

theorem dL_run_0 : decode (mB M_L_run) 0 = .ok (.aload_n 3, 1) := by decide +kernel
theorem dL_run_1 : decode (mB M_L_run) 1 = .ok (.iconst 0, 1) := by decide +kernel
theorem dL_run_2 : decode (mB M_L_run) 2 = .ok (.aload_n 0, 1) := by decide +kernel
theorem dL_run_3 : decode (mB M_L_run) 3 = .ok (.iload_n 1, 1) := by decide +kernel
theorem dL_run_4 : decode (mB M_L_run) 4 = .ok (.iload_n 2, 1) := by decide +kernel
theorem dL_run_5 : decode (mB M_L_run) 5 = .ok (.invokevirtual 30, 3) := by decide +kernel
theorem dL_run_8 : decode (mB M_L_run) 8 = .ok (.i2l, 1) := by decide +kernel
theorem dL_run_9 : decode (mB M_L_run) 9 = .ok (.lastore, 1) := by decide +kernel
theorem dL_run_10 : decode (mB M_L_run) 10 = .ok (.goto 11, 3) := by decide +kernel
theorem dL_run_13 : decode (mB M_L_run) 13 = .ok (.astore 4, 2) := by decide +kernel
theorem dL_run_15 : decode (mB M_L_run) 15 = .ok (.iconst 1, 1) := by decide +kernel
theorem dL_run_16 : decode (mB M_L_run) 16 = .ok (.ireturn, 1) := by decide +kernel
theorem dL_run_17 : decode (mB M_L_run) 17 = .ok (.astore 4, 2) := by decide +kernel
theorem dL_run_19 : decode (mB M_L_run) 19 = .ok (.iconst 2, 1) := by decide +kernel
theorem dL_run_20 : decode (mB M_L_run) 20 = .ok (.ireturn, 1) := by decide +kernel
theorem dL_run_21 : decode (mB M_L_run) 21 = .ok (.iconst 0, 1) := by decide +kernel
theorem dL_run_22 : decode (mB M_L_run) 22 = .ok (.ireturn, 1) := by decide +kernel
def b_L_run_0 (v0 : Nat) (v1 : Int32) (v2 : Int32) (v3 : Nat) (h : HP) : Option (Int32 × HP) :=
  (f_X7_run h v0 v1 v2).bind fun y1 => sw y1 (fun r => (wL h v3 0 (Int32.toInt64 r)).bind fun h2 => some (0, h2)) (fun E => if E = "java/lang/IndexOutOfBoundsException" then some (1, h) else if E = "java/lang/IllegalArgumentException" then some (2, h) else none)
def f_L_run (h : HP) (v0 : Nat) (v1 : Int32) (v2 : Int32) (v3 : Nat) : Option (Int32 × HP) := b_L_run_0 v0 v1 v2 v3 h
theorem w_L_run_0 {l : Launch} {X : SCR} {Q : PST} {res : Int32 × HP} {h : HP} (hQ : ∀ sz', Q (.inl (some (.int res.1))) res.2 sz') (hlt : l.stackTraces = false) (hX : X.2 = some [(0, 10, 13, 28), (0, 10, 17, 13)]) {v0 : Nat} {v1 : Int32} {v2 : Int32} {v3 : Nat} {sz : Nat} (hf : b_L_run_0 v0 v1 v2 v3 h  = some res) : SP l X M_L_run 0 [(0, .ref v0), (1, .int v1), (2, .int v2), (3, .ref v3)] [] h sz 1 6 Q := by
  rw [b_L_run_0] at hf
  refine sp_aload_n (pc := 0) dL_run_0 3 rfl ?_
  refine sp_iconst (pc := 1) (v := 0) dL_run_1 (by decide) ?_
  refine sp_aload_n (pc := 2) dL_run_2 0 rfl ?_
  refine sp_iload_n (pc := 3) dL_run_3 1 rfl ?_
  refine sp_iload_n (pc := 4) dL_run_4 2 rfl ?_
  obtain ⟨y1, ey1, hf⟩ := ob hf
  obtain ⟨fsy1, hoy1⟩ := o_X7_run ey1
  refine sp_callT (pc := 5) (hh9 := [(0, 10, 13, 28), (0, 10, 17, 13)]) (z := M_X7_run) (As := [.int v1, .int v2]) (b := v0) (bc2 := 0) (bs2 := 0) (m_X7_run (Q := _) (fun sz => ?_) hlt ey1) hX rfl dL_run_5 hoy1 rfl rfl bk_741 ck_L_run_30 (Nat.le_of_ble_eq_true rfl) rfl rfl rfl
  rcases y1 with r | E
  · skip
    simp only [sw] at hf
    refine Or.inl ⟨r, rfl, ?_⟩
    refine sp_i2l (pc := 8) dL_run_8 ?_
    obtain ⟨h2, eh2, hf⟩ := ob hf
    refine sp_wL (pc := 9) dL_run_9 eh2 (fun sz => ?_)
    refine sp_goto (pc := 10) (tgt := 21) dL_run_10 (by decide) ?_
    refine sp_iconst (pc := 21) (v := 0) dL_run_21 (by decide) ?_
    obtain rfl := Option.some.inj hf
    exact sp_ireturn (pc := 22) dL_run_22 rfl rfl (hQ _)
  · skip
    simp only [sw] at hf
    by_cases c3 : E = "java/lang/IndexOutOfBoundsException"
    · rw [if_pos c3] at hf
      subst c3
      refine Or.inr ⟨_, 13, rfl, hd_L_run_IndexOutOfBoundsException, fun qx => ?_⟩
      refine sp_astore (pc := 13) (lv' := [(4, .ref qx), (0, .ref v0), (1, .int v1), (2, .int v2), (3, .ref v3)]) dL_run_13 (by decide) rfl ?_
      refine sp_iconst (pc := 15) (v := 1) dL_run_15 (by decide) ?_
      obtain rfl := Option.some.inj hf
      exact sp_ireturn (pc := 16) dL_run_16 rfl rfl (hQ _)
    rw [if_neg c3] at hf
    by_cases c4 : E = "java/lang/IllegalArgumentException"
    · rw [if_pos c4] at hf
      subst c4
      refine Or.inr ⟨_, 17, rfl, hd_L_run_IllegalArgumentException, fun qx => ?_⟩
      refine sp_astore (pc := 17) (lv' := [(4, .ref qx), (0, .ref v0), (1, .int v1), (2, .int v2), (3, .ref v3)]) dL_run_17 (by decide) rfl ?_
      refine sp_iconst (pc := 19) (v := 2) dL_run_19 (by decide) ?_
      obtain rfl := Option.some.inj hf
      exact sp_ireturn (pc := 20) dL_run_20 rfl rfl (hQ _)
    rw [if_neg c4] at hf
    cases hf

theorem m_L_run {l : Launch} {Q : PST} {h : HP} {v0 : Nat} {v1 : Int32} {v2 : Int32} {v3 : Nat} {sz : Nat} {res : Int32 × HP} (hQ : ∀ sz', Q (.inl (some (.int res.1))) res.2 sz') (hlt : l.stackTraces = false) (hf : f_L_run h v0 v1 v2 v3 = some res) : MMW l M_L_run [(0, 10, 13, 28), (0, 10, 17, 13)] [.ref v0, .int v1, .int v2, .ref v3] h sz Q := by
  rw [f_L_run] at hf
  exact MMW_of wokW_L_run (by decide +kernel) (Nat.le_of_ble_eq_true rfl) (w_L_run_0 hQ hlt rfl hf)

theorem dL_write_0 : decode (mB M_L_write) 0 = .ok (.aload 4, 2) := by decide +kernel
theorem dL_write_2 : decode (mB M_L_write) 2 = .ok (.iconst 0, 1) := by decide +kernel
theorem dL_write_3 : decode (mB M_L_write) 3 = .ok (.aload_n 0, 1) := by decide +kernel
theorem dL_write_4 : decode (mB M_L_write) 4 = .ok (.iload_n 1, 1) := by decide +kernel
theorem dL_write_5 : decode (mB M_L_write) 5 = .ok (.iload_n 2, 1) := by decide +kernel
theorem dL_write_6 : decode (mB M_L_write) 6 = .ok (.iload_n 3, 1) := by decide +kernel
theorem dL_write_7 : decode (mB M_L_write) 7 = .ok (.invokevirtual 33, 3) := by decide +kernel
theorem dL_write_10 : decode (mB M_L_write) 10 = .ok (.i2l, 1) := by decide +kernel
theorem dL_write_11 : decode (mB M_L_write) 11 = .ok (.lastore, 1) := by decide +kernel
theorem dL_write_12 : decode (mB M_L_write) 12 = .ok (.goto 11, 3) := by decide +kernel
theorem dL_write_15 : decode (mB M_L_write) 15 = .ok (.astore 5, 2) := by decide +kernel
theorem dL_write_17 : decode (mB M_L_write) 17 = .ok (.iconst 1, 1) := by decide +kernel
theorem dL_write_18 : decode (mB M_L_write) 18 = .ok (.ireturn, 1) := by decide +kernel
theorem dL_write_19 : decode (mB M_L_write) 19 = .ok (.astore 5, 2) := by decide +kernel
theorem dL_write_21 : decode (mB M_L_write) 21 = .ok (.iconst 2, 1) := by decide +kernel
theorem dL_write_22 : decode (mB M_L_write) 22 = .ok (.ireturn, 1) := by decide +kernel
theorem dL_write_23 : decode (mB M_L_write) 23 = .ok (.iconst 0, 1) := by decide +kernel
theorem dL_write_24 : decode (mB M_L_write) 24 = .ok (.ireturn, 1) := by decide +kernel
def b_L_write_0 (v0 : Nat) (v1 : Int32) (v2 : Int32) (v3 : Int32) (v4 : Nat) (h : HP) : Option (Int32 × HP) :=
  (f_X7_write h v0 v1 v2 v3).bind fun y1 => sw y1 (fun r => (wL h v4 0 (Int32.toInt64 r)).bind fun h2 => some (0, h2)) (fun E => if E = "java/lang/IndexOutOfBoundsException" then some (1, h) else if E = "java/lang/IllegalArgumentException" then some (2, h) else none)
def f_L_write (h : HP) (v0 : Nat) (v1 : Int32) (v2 : Int32) (v3 : Int32) (v4 : Nat) : Option (Int32 × HP) := b_L_write_0 v0 v1 v2 v3 v4 h
theorem w_L_write_0 {l : Launch} {X : SCR} {Q : PST} {res : Int32 × HP} {h : HP} (hQ : ∀ sz', Q (.inl (some (.int res.1))) res.2 sz') (hlt : l.stackTraces = false) (hX : X.2 = some [(0, 12, 15, 28), (0, 12, 19, 13)]) {v0 : Nat} {v1 : Int32} {v2 : Int32} {v3 : Int32} {v4 : Nat} {sz : Nat} (hf : b_L_write_0 v0 v1 v2 v3 v4 h  = some res) : SP l X M_L_write 0 [(0, .ref v0), (1, .int v1), (2, .int v2), (3, .int v3), (4, .ref v4)] [] h sz 1 6 Q := by
  rw [b_L_write_0] at hf
  refine sp_aload (pc := 0) dL_write_0 4 rfl ?_
  refine sp_iconst (pc := 2) (v := 0) dL_write_2 (by decide) ?_
  refine sp_aload_n (pc := 3) dL_write_3 0 rfl ?_
  refine sp_iload_n (pc := 4) dL_write_4 1 rfl ?_
  refine sp_iload_n (pc := 5) dL_write_5 2 rfl ?_
  refine sp_iload_n (pc := 6) dL_write_6 3 rfl ?_
  obtain ⟨y1, ey1, hf⟩ := ob hf
  obtain ⟨fsy1, hoy1⟩ := o_X7_write ey1
  refine sp_callT (pc := 7) (hh9 := [(0, 12, 15, 28), (0, 12, 19, 13)]) (z := M_X7_write) (As := [.int v1, .int v2, .int v3]) (b := v0) (bc2 := 0) (bs2 := 0) (m_X7_write (Q := _) (fun sz => ?_) hlt ey1) hX rfl dL_write_7 hoy1 rfl rfl bk_775 ck_L_write_33 (Nat.le_of_ble_eq_true rfl) rfl rfl rfl
  rcases y1 with r | E
  · skip
    simp only [sw] at hf
    refine Or.inl ⟨r, rfl, ?_⟩
    refine sp_i2l (pc := 10) dL_write_10 ?_
    obtain ⟨h2, eh2, hf⟩ := ob hf
    refine sp_wL (pc := 11) dL_write_11 eh2 (fun sz => ?_)
    refine sp_goto (pc := 12) (tgt := 23) dL_write_12 (by decide) ?_
    refine sp_iconst (pc := 23) (v := 0) dL_write_23 (by decide) ?_
    obtain rfl := Option.some.inj hf
    exact sp_ireturn (pc := 24) dL_write_24 rfl rfl (hQ _)
  · skip
    simp only [sw] at hf
    by_cases c3 : E = "java/lang/IndexOutOfBoundsException"
    · rw [if_pos c3] at hf
      subst c3
      refine Or.inr ⟨_, 15, rfl, hd_L_write_IndexOutOfBoundsException, fun qx => ?_⟩
      refine sp_astore (pc := 15) (lv' := [(5, .ref qx), (0, .ref v0), (1, .int v1), (2, .int v2), (3, .int v3), (4, .ref v4)]) dL_write_15 (by decide) rfl ?_
      refine sp_iconst (pc := 17) (v := 1) dL_write_17 (by decide) ?_
      obtain rfl := Option.some.inj hf
      exact sp_ireturn (pc := 18) dL_write_18 rfl rfl (hQ _)
    rw [if_neg c3] at hf
    by_cases c4 : E = "java/lang/IllegalArgumentException"
    · rw [if_pos c4] at hf
      subst c4
      refine Or.inr ⟨_, 19, rfl, hd_L_write_IllegalArgumentException, fun qx => ?_⟩
      refine sp_astore (pc := 19) (lv' := [(5, .ref qx), (0, .ref v0), (1, .int v1), (2, .int v2), (3, .int v3), (4, .ref v4)]) dL_write_19 (by decide) rfl ?_
      refine sp_iconst (pc := 21) (v := 2) dL_write_21 (by decide) ?_
      obtain rfl := Option.some.inj hf
      exact sp_ireturn (pc := 22) dL_write_22 rfl rfl (hQ _)
    rw [if_neg c4] at hf
    cases hf

theorem m_L_write {l : Launch} {Q : PST} {h : HP} {v0 : Nat} {v1 : Int32} {v2 : Int32} {v3 : Int32} {v4 : Nat} {sz : Nat} {res : Int32 × HP} (hQ : ∀ sz', Q (.inl (some (.int res.1))) res.2 sz') (hlt : l.stackTraces = false) (hf : f_L_write h v0 v1 v2 v3 v4 = some res) : MMW l M_L_write [(0, 12, 15, 28), (0, 12, 19, 13)] [.ref v0, .int v1, .int v2, .int v3, .ref v4] h sz Q := by
  rw [f_L_write] at hf
  exact MMW_of wokW_L_write (by decide +kernel) (Nat.le_of_ble_eq_true rfl) (w_L_write_0 hQ hlt rfl hf)

theorem dL_eye_0 : decode (mB M_L_eye) 0 = .ok (.aload_n 2, 1) := by decide +kernel
theorem dL_eye_1 : decode (mB M_L_eye) 1 = .ok (.iconst 0, 1) := by decide +kernel
theorem dL_eye_2 : decode (mB M_L_eye) 2 = .ok (.aload_n 0, 1) := by decide +kernel
theorem dL_eye_3 : decode (mB M_L_eye) 3 = .ok (.iload_n 1, 1) := by decide +kernel
theorem dL_eye_4 : decode (mB M_L_eye) 4 = .ok (.invokevirtual 37, 3) := by decide +kernel
theorem dL_eye_7 : decode (mB M_L_eye) 7 = .ok (.i2l, 1) := by decide +kernel
theorem dL_eye_8 : decode (mB M_L_eye) 8 = .ok (.lastore, 1) := by decide +kernel
theorem dL_eye_9 : decode (mB M_L_eye) 9 = .ok (.goto 6, 3) := by decide +kernel
theorem dL_eye_12 : decode (mB M_L_eye) 12 = .ok (.astore_n 3, 1) := by decide +kernel
theorem dL_eye_13 : decode (mB M_L_eye) 13 = .ok (.iconst 1, 1) := by decide +kernel
theorem dL_eye_14 : decode (mB M_L_eye) 14 = .ok (.ireturn, 1) := by decide +kernel
theorem dL_eye_15 : decode (mB M_L_eye) 15 = .ok (.iconst 0, 1) := by decide +kernel
theorem dL_eye_16 : decode (mB M_L_eye) 16 = .ok (.ireturn, 1) := by decide +kernel
def b_L_eye_0 (v0 : Nat) (v1 : Int32) (v2 : Nat) (h : HP) : Option (Int32 × HP) :=
  (f_X7_eye h v0 v1).bind fun y1 => sw y1 (fun r => (wL h v2 0 (Int32.toInt64 r)).bind fun h2 => some (0, h2)) (fun E => if E = "java/lang/IndexOutOfBoundsException" then some (1, h) else none)
def f_L_eye (h : HP) (v0 : Nat) (v1 : Int32) (v2 : Nat) : Option (Int32 × HP) := b_L_eye_0 v0 v1 v2 h
theorem w_L_eye_0 {l : Launch} {X : SCR} {Q : PST} {res : Int32 × HP} {h : HP} (hQ : ∀ sz', Q (.inl (some (.int res.1))) res.2 sz') (hlt : l.stackTraces = false) (hX : X.2 = some [(0, 9, 12, 28)]) {v0 : Nat} {v1 : Int32} {v2 : Nat} {sz : Nat} (hf : b_L_eye_0 v0 v1 v2 h  = some res) : SP l X M_L_eye 0 [(0, .ref v0), (1, .int v1), (2, .ref v2)] [] h sz 1 6 Q := by
  rw [b_L_eye_0] at hf
  refine sp_aload_n (pc := 0) dL_eye_0 2 rfl ?_
  refine sp_iconst (pc := 1) (v := 0) dL_eye_1 (by decide) ?_
  refine sp_aload_n (pc := 2) dL_eye_2 0 rfl ?_
  refine sp_iload_n (pc := 3) dL_eye_3 1 rfl ?_
  obtain ⟨y1, ey1, hf⟩ := ob hf
  obtain ⟨fsy1, hoy1⟩ := o_X7_eye ey1
  refine sp_callT (pc := 4) (hh9 := [(0, 9, 12, 28)]) (z := M_X7_eye) (As := [.int v1]) (b := v0) (bc2 := 0) (bs2 := 0) (m_X7_eye (Q := _) (fun sz => ?_) hlt ey1) hX rfl dL_eye_4 hoy1 rfl rfl bk_786 ck_L_eye_37 (Nat.le_of_ble_eq_true rfl) rfl rfl rfl
  rcases y1 with r | E
  · skip
    simp only [sw] at hf
    refine Or.inl ⟨r, rfl, ?_⟩
    refine sp_i2l (pc := 7) dL_eye_7 ?_
    obtain ⟨h2, eh2, hf⟩ := ob hf
    refine sp_wL (pc := 8) dL_eye_8 eh2 (fun sz => ?_)
    refine sp_goto (pc := 9) (tgt := 15) dL_eye_9 (by decide) ?_
    refine sp_iconst (pc := 15) (v := 0) dL_eye_15 (by decide) ?_
    obtain rfl := Option.some.inj hf
    exact sp_ireturn (pc := 16) dL_eye_16 rfl rfl (hQ _)
  · skip
    simp only [sw] at hf
    by_cases c3 : E = "java/lang/IndexOutOfBoundsException"
    · rw [if_pos c3] at hf
      subst c3
      refine Or.inr ⟨_, 12, rfl, hd_L_eye_IndexOutOfBoundsException, fun qx => ?_⟩
      refine sp_astore_n (pc := 12) (lv' := [(3, .ref qx), (0, .ref v0), (1, .int v1), (2, .ref v2)]) dL_eye_12 (by decide) rfl ?_
      refine sp_iconst (pc := 13) (v := 1) dL_eye_13 (by decide) ?_
      obtain rfl := Option.some.inj hf
      exact sp_ireturn (pc := 14) dL_eye_14 rfl rfl (hQ _)
    rw [if_neg c3] at hf
    cases hf

theorem m_L_eye {l : Launch} {Q : PST} {h : HP} {v0 : Nat} {v1 : Int32} {v2 : Nat} {sz : Nat} {res : Int32 × HP} (hQ : ∀ sz', Q (.inl (some (.int res.1))) res.2 sz') (hlt : l.stackTraces = false) (hf : f_L_eye h v0 v1 v2 = some res) : MMW l M_L_eye [(0, 9, 12, 28)] [.ref v0, .int v1, .ref v2] h sz Q := by
  rw [f_L_eye] at hf
  exact MMW_of wokW_L_eye (by decide +kernel) (Nat.le_of_ble_eq_true rfl) (w_L_eye_0 hQ hlt rfl hf)

theorem dL_put_0 : decode (mB M_L_put) 0 = .ok (.aload_n 3, 1) := by decide +kernel
theorem dL_put_1 : decode (mB M_L_put) 1 = .ok (.iconst 0, 1) := by decide +kernel
theorem dL_put_2 : decode (mB M_L_put) 2 = .ok (.aload_n 0, 1) := by decide +kernel
theorem dL_put_3 : decode (mB M_L_put) 3 = .ok (.iload_n 1, 1) := by decide +kernel
theorem dL_put_4 : decode (mB M_L_put) 4 = .ok (.iload_n 2, 1) := by decide +kernel
theorem dL_put_5 : decode (mB M_L_put) 5 = .ok (.invokevirtual 40, 3) := by decide +kernel
theorem dL_put_8 : decode (mB M_L_put) 8 = .ok (.i2l, 1) := by decide +kernel
theorem dL_put_9 : decode (mB M_L_put) 9 = .ok (.lastore, 1) := by decide +kernel
theorem dL_put_10 : decode (mB M_L_put) 10 = .ok (.goto 15, 3) := by decide +kernel
theorem dL_put_13 : decode (mB M_L_put) 13 = .ok (.astore 4, 2) := by decide +kernel
theorem dL_put_15 : decode (mB M_L_put) 15 = .ok (.iconst 1, 1) := by decide +kernel
theorem dL_put_16 : decode (mB M_L_put) 16 = .ok (.ireturn, 1) := by decide +kernel
theorem dL_put_17 : decode (mB M_L_put) 17 = .ok (.astore 4, 2) := by decide +kernel
theorem dL_put_19 : decode (mB M_L_put) 19 = .ok (.iconst 2, 1) := by decide +kernel
theorem dL_put_20 : decode (mB M_L_put) 20 = .ok (.ireturn, 1) := by decide +kernel
theorem dL_put_21 : decode (mB M_L_put) 21 = .ok (.astore 4, 2) := by decide +kernel
theorem dL_put_23 : decode (mB M_L_put) 23 = .ok (.iconst 3, 1) := by decide +kernel
theorem dL_put_24 : decode (mB M_L_put) 24 = .ok (.ireturn, 1) := by decide +kernel
theorem dL_put_25 : decode (mB M_L_put) 25 = .ok (.iconst 0, 1) := by decide +kernel
theorem dL_put_26 : decode (mB M_L_put) 26 = .ok (.ireturn, 1) := by decide +kernel
def b_L_put_0 (v0 : Nat) (v1 : Int32) (v2 : Int32) (v3 : Nat) (h : HP) : Option (Int32 × HP) :=
  (f_X7_put h v0 v1 v2).bind fun y1 => sw y1.1 (fun r => (wL y1.2 v3 0 (Int32.toInt64 r)).bind fun h2 => some (0, h2)) (fun E => if E = "java/lang/IndexOutOfBoundsException" then some (1, y1.2) else if E = "java/lang/IllegalArgumentException" then some (2, y1.2) else if E = "java/lang/IllegalStateException" then some (3, y1.2) else none)
def f_L_put (h : HP) (v0 : Nat) (v1 : Int32) (v2 : Int32) (v3 : Nat) : Option (Int32 × HP) := b_L_put_0 v0 v1 v2 v3 h
theorem w_L_put_0 {l : Launch} {X : SCR} {Q : PST} {res : Int32 × HP} {h : HP} (hQ : ∀ sz', Q (.inl (some (.int res.1))) res.2 sz') (hlt : l.stackTraces = false) (hX : X.2 = some [(0, 10, 13, 28), (0, 10, 17, 13), (0, 10, 21, 15)]) {v0 : Nat} {v1 : Int32} {v2 : Int32} {v3 : Nat} {sz : Nat} (hf : b_L_put_0 v0 v1 v2 v3 h  = some res) : SP l X M_L_put 0 [(0, .ref v0), (1, .int v1), (2, .int v2), (3, .ref v3)] [] h sz 1 6 Q := by
  rw [b_L_put_0] at hf
  refine sp_aload_n (pc := 0) dL_put_0 3 rfl ?_
  refine sp_iconst (pc := 1) (v := 0) dL_put_1 (by decide) ?_
  refine sp_aload_n (pc := 2) dL_put_2 0 rfl ?_
  refine sp_iload_n (pc := 3) dL_put_3 1 rfl ?_
  refine sp_iload_n (pc := 4) dL_put_4 2 rfl ?_
  obtain ⟨y1, ey1, hf⟩ := ob hf
  obtain ⟨fsy1, hoy1⟩ := o_X7_put ey1
  refine sp_callT (pc := 5) (hh9 := [(0, 10, 13, 28), (0, 10, 17, 13), (0, 10, 21, 15)]) (z := M_X7_put) (As := [.int v1, .int v2]) (b := v0) (bc2 := 0) (bs2 := 0) (m_X7_put (Q := _) (fun sz => ?_) hlt ey1) hX rfl dL_put_5 hoy1 rfl rfl bk_795 ck_L_put_40 (Nat.le_of_ble_eq_true rfl) rfl rfl rfl
  rcases hsy1 : y1.1 with r | E
  · rw [hsy1] at hf
    simp only [sw] at hf
    refine Or.inl ⟨r, rfl, ?_⟩
    refine sp_i2l (pc := 8) dL_put_8 ?_
    obtain ⟨h2, eh2, hf⟩ := ob hf
    refine sp_wL (pc := 9) dL_put_9 eh2 (fun sz => ?_)
    refine sp_goto (pc := 10) (tgt := 25) dL_put_10 (by decide) ?_
    refine sp_iconst (pc := 25) (v := 0) dL_put_25 (by decide) ?_
    obtain rfl := Option.some.inj hf
    exact sp_ireturn (pc := 26) dL_put_26 rfl rfl (hQ _)
  · rw [hsy1] at hf
    simp only [sw] at hf
    by_cases c3 : E = "java/lang/IndexOutOfBoundsException"
    · rw [if_pos c3] at hf
      subst c3
      refine Or.inr ⟨_, 13, rfl, hd_L_put_IndexOutOfBoundsException, fun qx => ?_⟩
      refine sp_astore (pc := 13) (lv' := [(4, .ref qx), (0, .ref v0), (1, .int v1), (2, .int v2), (3, .ref v3)]) dL_put_13 (by decide) rfl ?_
      refine sp_iconst (pc := 15) (v := 1) dL_put_15 (by decide) ?_
      obtain rfl := Option.some.inj hf
      exact sp_ireturn (pc := 16) dL_put_16 rfl rfl (hQ _)
    rw [if_neg c3] at hf
    by_cases c4 : E = "java/lang/IllegalArgumentException"
    · rw [if_pos c4] at hf
      subst c4
      refine Or.inr ⟨_, 17, rfl, hd_L_put_IllegalArgumentException, fun qx => ?_⟩
      refine sp_astore (pc := 17) (lv' := [(4, .ref qx), (0, .ref v0), (1, .int v1), (2, .int v2), (3, .ref v3)]) dL_put_17 (by decide) rfl ?_
      refine sp_iconst (pc := 19) (v := 2) dL_put_19 (by decide) ?_
      obtain rfl := Option.some.inj hf
      exact sp_ireturn (pc := 20) dL_put_20 rfl rfl (hQ _)
    rw [if_neg c4] at hf
    by_cases c5 : E = "java/lang/IllegalStateException"
    · rw [if_pos c5] at hf
      subst c5
      refine Or.inr ⟨_, 21, rfl, hd_L_put_IllegalStateException, fun qx => ?_⟩
      refine sp_astore (pc := 21) (lv' := [(4, .ref qx), (0, .ref v0), (1, .int v1), (2, .int v2), (3, .ref v3)]) dL_put_21 (by decide) rfl ?_
      refine sp_iconst (pc := 23) (v := 3) dL_put_23 (by decide) ?_
      obtain rfl := Option.some.inj hf
      exact sp_ireturn (pc := 24) dL_put_24 rfl rfl (hQ _)
    rw [if_neg c5] at hf
    cases hf

theorem m_L_put {l : Launch} {Q : PST} {h : HP} {v0 : Nat} {v1 : Int32} {v2 : Int32} {v3 : Nat} {sz : Nat} {res : Int32 × HP} (hQ : ∀ sz', Q (.inl (some (.int res.1))) res.2 sz') (hlt : l.stackTraces = false) (hf : f_L_put h v0 v1 v2 v3 = some res) : MMW l M_L_put [(0, 10, 13, 28), (0, 10, 17, 13), (0, 10, 21, 15)] [.ref v0, .int v1, .int v2, .ref v3] h sz Q := by
  rw [f_L_put] at hf
  exact MMW_of wokW_L_put (by decide +kernel) (Nat.le_of_ble_eq_true rfl) (w_L_put_0 hQ hlt rfl hf)

theorem dL_bury_0 : decode (mB M_L_bury) 0 = .ok (.aload_n 3, 1) := by decide +kernel
theorem dL_bury_1 : decode (mB M_L_bury) 1 = .ok (.iconst 0, 1) := by decide +kernel
theorem dL_bury_2 : decode (mB M_L_bury) 2 = .ok (.aload_n 0, 1) := by decide +kernel
theorem dL_bury_3 : decode (mB M_L_bury) 3 = .ok (.iload_n 1, 1) := by decide +kernel
theorem dL_bury_4 : decode (mB M_L_bury) 4 = .ok (.iload_n 2, 1) := by decide +kernel
theorem dL_bury_5 : decode (mB M_L_bury) 5 = .ok (.invokevirtual 43, 3) := by decide +kernel
theorem dL_bury_8 : decode (mB M_L_bury) 8 = .ok (.i2l, 1) := by decide +kernel
theorem dL_bury_9 : decode (mB M_L_bury) 9 = .ok (.lastore, 1) := by decide +kernel
theorem dL_bury_10 : decode (mB M_L_bury) 10 = .ok (.goto 15, 3) := by decide +kernel
theorem dL_bury_13 : decode (mB M_L_bury) 13 = .ok (.astore 4, 2) := by decide +kernel
theorem dL_bury_15 : decode (mB M_L_bury) 15 = .ok (.iconst 1, 1) := by decide +kernel
theorem dL_bury_16 : decode (mB M_L_bury) 16 = .ok (.ireturn, 1) := by decide +kernel
theorem dL_bury_17 : decode (mB M_L_bury) 17 = .ok (.astore 4, 2) := by decide +kernel
theorem dL_bury_19 : decode (mB M_L_bury) 19 = .ok (.iconst 2, 1) := by decide +kernel
theorem dL_bury_20 : decode (mB M_L_bury) 20 = .ok (.ireturn, 1) := by decide +kernel
theorem dL_bury_21 : decode (mB M_L_bury) 21 = .ok (.astore 4, 2) := by decide +kernel
theorem dL_bury_23 : decode (mB M_L_bury) 23 = .ok (.iconst 3, 1) := by decide +kernel
theorem dL_bury_24 : decode (mB M_L_bury) 24 = .ok (.ireturn, 1) := by decide +kernel
theorem dL_bury_25 : decode (mB M_L_bury) 25 = .ok (.iconst 0, 1) := by decide +kernel
theorem dL_bury_26 : decode (mB M_L_bury) 26 = .ok (.ireturn, 1) := by decide +kernel
def b_L_bury_0 (v0 : Nat) (v1 : Int32) (v2 : Int32) (v3 : Nat) (h : HP) : Option (Int32 × HP) :=
  (f_X7_bury h v0 v1 v2).bind fun y1 => sw y1.1 (fun r => (wL y1.2 v3 0 (Int32.toInt64 r)).bind fun h2 => some (0, h2)) (fun E => if E = "java/lang/IndexOutOfBoundsException" then some (1, y1.2) else if E = "java/lang/IllegalArgumentException" then some (2, y1.2) else if E = "java/lang/IllegalStateException" then some (3, y1.2) else none)
def f_L_bury (h : HP) (v0 : Nat) (v1 : Int32) (v2 : Int32) (v3 : Nat) : Option (Int32 × HP) := b_L_bury_0 v0 v1 v2 v3 h
theorem w_L_bury_0 {l : Launch} {X : SCR} {Q : PST} {res : Int32 × HP} {h : HP} (hQ : ∀ sz', Q (.inl (some (.int res.1))) res.2 sz') (hlt : l.stackTraces = false) (hX : X.2 = some [(0, 10, 13, 28), (0, 10, 17, 13), (0, 10, 21, 15)]) {v0 : Nat} {v1 : Int32} {v2 : Int32} {v3 : Nat} {sz : Nat} (hf : b_L_bury_0 v0 v1 v2 v3 h  = some res) : SP l X M_L_bury 0 [(0, .ref v0), (1, .int v1), (2, .int v2), (3, .ref v3)] [] h sz 1 6 Q := by
  rw [b_L_bury_0] at hf
  refine sp_aload_n (pc := 0) dL_bury_0 3 rfl ?_
  refine sp_iconst (pc := 1) (v := 0) dL_bury_1 (by decide) ?_
  refine sp_aload_n (pc := 2) dL_bury_2 0 rfl ?_
  refine sp_iload_n (pc := 3) dL_bury_3 1 rfl ?_
  refine sp_iload_n (pc := 4) dL_bury_4 2 rfl ?_
  obtain ⟨y1, ey1, hf⟩ := ob hf
  obtain ⟨fsy1, hoy1⟩ := o_X7_bury ey1
  refine sp_callT (pc := 5) (hh9 := [(0, 10, 13, 28), (0, 10, 17, 13), (0, 10, 21, 15)]) (z := M_X7_bury) (As := [.int v1, .int v2]) (b := v0) (bc2 := 0) (bs2 := 0) (m_X7_bury (Q := _) (fun sz => ?_) hlt ey1) hX rfl dL_bury_5 hoy1 rfl rfl bk_813 ck_L_bury_43 (Nat.le_of_ble_eq_true rfl) rfl rfl rfl
  rcases hsy1 : y1.1 with r | E
  · rw [hsy1] at hf
    simp only [sw] at hf
    refine Or.inl ⟨r, rfl, ?_⟩
    refine sp_i2l (pc := 8) dL_bury_8 ?_
    obtain ⟨h2, eh2, hf⟩ := ob hf
    refine sp_wL (pc := 9) dL_bury_9 eh2 (fun sz => ?_)
    refine sp_goto (pc := 10) (tgt := 25) dL_bury_10 (by decide) ?_
    refine sp_iconst (pc := 25) (v := 0) dL_bury_25 (by decide) ?_
    obtain rfl := Option.some.inj hf
    exact sp_ireturn (pc := 26) dL_bury_26 rfl rfl (hQ _)
  · rw [hsy1] at hf
    simp only [sw] at hf
    by_cases c3 : E = "java/lang/IndexOutOfBoundsException"
    · rw [if_pos c3] at hf
      subst c3
      refine Or.inr ⟨_, 13, rfl, hd_L_bury_IndexOutOfBoundsException, fun qx => ?_⟩
      refine sp_astore (pc := 13) (lv' := [(4, .ref qx), (0, .ref v0), (1, .int v1), (2, .int v2), (3, .ref v3)]) dL_bury_13 (by decide) rfl ?_
      refine sp_iconst (pc := 15) (v := 1) dL_bury_15 (by decide) ?_
      obtain rfl := Option.some.inj hf
      exact sp_ireturn (pc := 16) dL_bury_16 rfl rfl (hQ _)
    rw [if_neg c3] at hf
    by_cases c4 : E = "java/lang/IllegalArgumentException"
    · rw [if_pos c4] at hf
      subst c4
      refine Or.inr ⟨_, 17, rfl, hd_L_bury_IllegalArgumentException, fun qx => ?_⟩
      refine sp_astore (pc := 17) (lv' := [(4, .ref qx), (0, .ref v0), (1, .int v1), (2, .int v2), (3, .ref v3)]) dL_bury_17 (by decide) rfl ?_
      refine sp_iconst (pc := 19) (v := 2) dL_bury_19 (by decide) ?_
      obtain rfl := Option.some.inj hf
      exact sp_ireturn (pc := 20) dL_bury_20 rfl rfl (hQ _)
    rw [if_neg c4] at hf
    by_cases c5 : E = "java/lang/IllegalStateException"
    · rw [if_pos c5] at hf
      subst c5
      refine Or.inr ⟨_, 21, rfl, hd_L_bury_IllegalStateException, fun qx => ?_⟩
      refine sp_astore (pc := 21) (lv' := [(4, .ref qx), (0, .ref v0), (1, .int v1), (2, .int v2), (3, .ref v3)]) dL_bury_21 (by decide) rfl ?_
      refine sp_iconst (pc := 23) (v := 3) dL_bury_23 (by decide) ?_
      obtain rfl := Option.some.inj hf
      exact sp_ireturn (pc := 24) dL_bury_24 rfl rfl (hQ _)
    rw [if_neg c5] at hf
    cases hf

theorem m_L_bury {l : Launch} {Q : PST} {h : HP} {v0 : Nat} {v1 : Int32} {v2 : Int32} {v3 : Nat} {sz : Nat} {res : Int32 × HP} (hQ : ∀ sz', Q (.inl (some (.int res.1))) res.2 sz') (hlt : l.stackTraces = false) (hf : f_L_bury h v0 v1 v2 v3 = some res) : MMW l M_L_bury [(0, 10, 13, 28), (0, 10, 17, 13), (0, 10, 21, 15)] [.ref v0, .int v1, .int v2, .ref v3] h sz Q := by
  rw [f_L_bury] at hf
  exact MMW_of wokW_L_bury (by decide +kernel) (Nat.le_of_ble_eq_true rfl) (w_L_bury_0 hQ hlt rfl hf)

theorem dL_open_0 : decode (mB M_L_open) 0 = .ok (.aload_n 1, 1) := by decide +kernel
theorem dL_open_1 : decode (mB M_L_open) 1 = .ok (.iconst 0, 1) := by decide +kernel
theorem dL_open_2 : decode (mB M_L_open) 2 = .ok (.aload_n 0, 1) := by decide +kernel
theorem dL_open_3 : decode (mB M_L_open) 3 = .ok (.invokevirtual 46, 3) := by decide +kernel
theorem dL_open_6 : decode (mB M_L_open) 6 = .ok (.i2l, 1) := by decide +kernel
theorem dL_open_7 : decode (mB M_L_open) 7 = .ok (.lastore, 1) := by decide +kernel
theorem dL_open_8 : decode (mB M_L_open) 8 = .ok (.goto 6, 3) := by decide +kernel
theorem dL_open_11 : decode (mB M_L_open) 11 = .ok (.astore_n 2, 1) := by decide +kernel
theorem dL_open_12 : decode (mB M_L_open) 12 = .ok (.iconst 1, 1) := by decide +kernel
theorem dL_open_13 : decode (mB M_L_open) 13 = .ok (.ireturn, 1) := by decide +kernel
theorem dL_open_14 : decode (mB M_L_open) 14 = .ok (.iconst 0, 1) := by decide +kernel
theorem dL_open_15 : decode (mB M_L_open) 15 = .ok (.ireturn, 1) := by decide +kernel
def b_L_open_0 (v0 : Nat) (v1 : Nat) (h : HP) : Option (Int32 × HP) :=
  (f_X7_open h v0).bind fun y1 => sw y1.1 (fun r => (wL y1.2 v1 0 (Int32.toInt64 r)).bind fun h2 => some (0, h2)) (fun E => if E = "java/lang/IllegalStateException" then some (1, y1.2) else none)
def f_L_open (h : HP) (v0 : Nat) (v1 : Nat) : Option (Int32 × HP) := b_L_open_0 v0 v1 h
theorem w_L_open_0 {l : Launch} {X : SCR} {Q : PST} {res : Int32 × HP} {h : HP} (hQ : ∀ sz', Q (.inl (some (.int res.1))) res.2 sz') (hlt : l.stackTraces = false) (hX : X.2 = some [(0, 8, 11, 15)]) {v0 : Nat} {v1 : Nat} {sz : Nat} (hf : b_L_open_0 v0 v1 h  = some res) : SP l X M_L_open 0 [(0, .ref v0), (1, .ref v1)] [] h sz 1 6 Q := by
  rw [b_L_open_0] at hf
  refine sp_aload_n (pc := 0) dL_open_0 1 rfl ?_
  refine sp_iconst (pc := 1) (v := 0) dL_open_1 (by decide) ?_
  refine sp_aload_n (pc := 2) dL_open_2 0 rfl ?_
  obtain ⟨y1, ey1, hf⟩ := ob hf
  obtain ⟨fsy1, hoy1⟩ := o_X7_open ey1
  refine sp_callT (pc := 3) (hh9 := [(0, 8, 11, 15)]) (z := M_X7_open) (As := []) (b := v0) (bc2 := 0) (bs2 := 0) (m_X7_open (Q := _) (fun sz => ?_) hlt ey1) hX rfl dL_open_3 hoy1 rfl rfl bk_821 ck_L_open_46 (Nat.le_of_ble_eq_true rfl) rfl rfl rfl
  rcases hsy1 : y1.1 with r | E
  · rw [hsy1] at hf
    simp only [sw] at hf
    refine Or.inl ⟨r, rfl, ?_⟩
    refine sp_i2l (pc := 6) dL_open_6 ?_
    obtain ⟨h2, eh2, hf⟩ := ob hf
    refine sp_wL (pc := 7) dL_open_7 eh2 (fun sz => ?_)
    refine sp_goto (pc := 8) (tgt := 14) dL_open_8 (by decide) ?_
    refine sp_iconst (pc := 14) (v := 0) dL_open_14 (by decide) ?_
    obtain rfl := Option.some.inj hf
    exact sp_ireturn (pc := 15) dL_open_15 rfl rfl (hQ _)
  · rw [hsy1] at hf
    simp only [sw] at hf
    by_cases c3 : E = "java/lang/IllegalStateException"
    · rw [if_pos c3] at hf
      subst c3
      refine Or.inr ⟨_, 11, rfl, hd_L_open_IllegalStateException, fun qx => ?_⟩
      refine sp_astore_n (pc := 11) (lv' := [(2, .ref qx), (0, .ref v0), (1, .ref v1)]) dL_open_11 (by decide) rfl ?_
      refine sp_iconst (pc := 12) (v := 1) dL_open_12 (by decide) ?_
      obtain rfl := Option.some.inj hf
      exact sp_ireturn (pc := 13) dL_open_13 rfl rfl (hQ _)
    rw [if_neg c3] at hf
    cases hf

theorem m_L_open {l : Launch} {Q : PST} {h : HP} {v0 : Nat} {v1 : Nat} {sz : Nat} {res : Int32 × HP} (hQ : ∀ sz', Q (.inl (some (.int res.1))) res.2 sz') (hlt : l.stackTraces = false) (hf : f_L_open h v0 v1 = some res) : MMW l M_L_open [(0, 8, 11, 15)] [.ref v0, .ref v1] h sz Q := by
  rw [f_L_open] at hf
  exact MMW_of wokW_L_open (by decide +kernel) (Nat.le_of_ble_eq_true rfl) (w_L_open_0 hQ hlt rfl hf)

theorem dL_close_0 : decode (mB M_L_close) 0 = .ok (.aload_n 2, 1) := by decide +kernel
theorem dL_close_1 : decode (mB M_L_close) 1 = .ok (.iconst 0, 1) := by decide +kernel
theorem dL_close_2 : decode (mB M_L_close) 2 = .ok (.aload_n 0, 1) := by decide +kernel
theorem dL_close_3 : decode (mB M_L_close) 3 = .ok (.iload_n 1, 1) := by decide +kernel
theorem dL_close_4 : decode (mB M_L_close) 4 = .ok (.invokevirtual 49, 3) := by decide +kernel
theorem dL_close_7 : decode (mB M_L_close) 7 = .ok (.i2l, 1) := by decide +kernel
theorem dL_close_8 : decode (mB M_L_close) 8 = .ok (.lastore, 1) := by decide +kernel
theorem dL_close_9 : decode (mB M_L_close) 9 = .ok (.goto 6, 3) := by decide +kernel
theorem dL_close_12 : decode (mB M_L_close) 12 = .ok (.astore_n 3, 1) := by decide +kernel
theorem dL_close_13 : decode (mB M_L_close) 13 = .ok (.iconst 1, 1) := by decide +kernel
theorem dL_close_14 : decode (mB M_L_close) 14 = .ok (.ireturn, 1) := by decide +kernel
theorem dL_close_15 : decode (mB M_L_close) 15 = .ok (.iconst 0, 1) := by decide +kernel
theorem dL_close_16 : decode (mB M_L_close) 16 = .ok (.ireturn, 1) := by decide +kernel
def b_L_close_0 (v0 : Nat) (v1 : Int32) (v2 : Nat) (h : HP) : Option (Int32 × HP) :=
  (f_X7_close h v0 v1).bind fun y1 => sw y1.1 (fun r => (wL y1.2 v2 0 (Int32.toInt64 r)).bind fun h2 => some (0, h2)) (fun E => if E = "java/lang/IndexOutOfBoundsException" then some (1, y1.2) else none)
def f_L_close (h : HP) (v0 : Nat) (v1 : Int32) (v2 : Nat) : Option (Int32 × HP) := b_L_close_0 v0 v1 v2 h
theorem w_L_close_0 {l : Launch} {X : SCR} {Q : PST} {res : Int32 × HP} {h : HP} (hQ : ∀ sz', Q (.inl (some (.int res.1))) res.2 sz') (hlt : l.stackTraces = false) (hX : X.2 = some [(0, 9, 12, 28)]) {v0 : Nat} {v1 : Int32} {v2 : Nat} {sz : Nat} (hf : b_L_close_0 v0 v1 v2 h  = some res) : SP l X M_L_close 0 [(0, .ref v0), (1, .int v1), (2, .ref v2)] [] h sz 1 6 Q := by
  rw [b_L_close_0] at hf
  refine sp_aload_n (pc := 0) dL_close_0 2 rfl ?_
  refine sp_iconst (pc := 1) (v := 0) dL_close_1 (by decide) ?_
  refine sp_aload_n (pc := 2) dL_close_2 0 rfl ?_
  refine sp_iload_n (pc := 3) dL_close_3 1 rfl ?_
  obtain ⟨y1, ey1, hf⟩ := ob hf
  obtain ⟨fsy1, hoy1⟩ := o_X7_close ey1
  refine sp_callT (pc := 4) (hh9 := [(0, 9, 12, 28)]) (z := M_X7_close) (As := [.int v1]) (b := v0) (bc2 := 0) (bs2 := 0) (m_X7_close (Q := _) (fun sz => ?_) hlt ey1) hX rfl dL_close_4 hoy1 rfl rfl bk_831 ck_L_close_49 (Nat.le_of_ble_eq_true rfl) rfl rfl rfl
  rcases hsy1 : y1.1 with r | E
  · rw [hsy1] at hf
    simp only [sw] at hf
    refine Or.inl ⟨r, rfl, ?_⟩
    refine sp_i2l (pc := 7) dL_close_7 ?_
    obtain ⟨h2, eh2, hf⟩ := ob hf
    refine sp_wL (pc := 8) dL_close_8 eh2 (fun sz => ?_)
    refine sp_goto (pc := 9) (tgt := 15) dL_close_9 (by decide) ?_
    refine sp_iconst (pc := 15) (v := 0) dL_close_15 (by decide) ?_
    obtain rfl := Option.some.inj hf
    exact sp_ireturn (pc := 16) dL_close_16 rfl rfl (hQ _)
  · rw [hsy1] at hf
    simp only [sw] at hf
    by_cases c3 : E = "java/lang/IndexOutOfBoundsException"
    · rw [if_pos c3] at hf
      subst c3
      refine Or.inr ⟨_, 12, rfl, hd_L_close_IndexOutOfBoundsException, fun qx => ?_⟩
      refine sp_astore_n (pc := 12) (lv' := [(3, .ref qx), (0, .ref v0), (1, .int v1), (2, .ref v2)]) dL_close_12 (by decide) rfl ?_
      refine sp_iconst (pc := 13) (v := 1) dL_close_13 (by decide) ?_
      obtain rfl := Option.some.inj hf
      exact sp_ireturn (pc := 14) dL_close_14 rfl rfl (hQ _)
    rw [if_neg c3] at hf
    cases hf

theorem m_L_close {l : Launch} {Q : PST} {h : HP} {v0 : Nat} {v1 : Int32} {v2 : Nat} {sz : Nat} {res : Int32 × HP} (hQ : ∀ sz', Q (.inl (some (.int res.1))) res.2 sz') (hlt : l.stackTraces = false) (hf : f_L_close h v0 v1 v2 = some res) : MMW l M_L_close [(0, 9, 12, 28)] [.ref v0, .int v1, .ref v2] h sz Q := by
  rw [f_L_close] at hf
  exact MMW_of wokW_L_close (by decide +kernel) (Nat.le_of_ble_eq_true rfl) (w_L_close_0 hQ hlt rfl hf)

theorem dL_flush_0 : decode (mB M_L_flush) 0 = .ok (.aload_n 1, 1) := by decide +kernel
theorem dL_flush_1 : decode (mB M_L_flush) 1 = .ok (.iconst 0, 1) := by decide +kernel
theorem dL_flush_2 : decode (mB M_L_flush) 2 = .ok (.aload_n 0, 1) := by decide +kernel
theorem dL_flush_3 : decode (mB M_L_flush) 3 = .ok (.invokevirtual 52, 3) := by decide +kernel
theorem dL_flush_6 : decode (mB M_L_flush) 6 = .ok (.i2l, 1) := by decide +kernel
theorem dL_flush_7 : decode (mB M_L_flush) 7 = .ok (.lastore, 1) := by decide +kernel
theorem dL_flush_8 : decode (mB M_L_flush) 8 = .ok (.goto 6, 3) := by decide +kernel
theorem dL_flush_11 : decode (mB M_L_flush) 11 = .ok (.astore_n 2, 1) := by decide +kernel
theorem dL_flush_12 : decode (mB M_L_flush) 12 = .ok (.iconst 1, 1) := by decide +kernel
theorem dL_flush_13 : decode (mB M_L_flush) 13 = .ok (.ireturn, 1) := by decide +kernel
theorem dL_flush_14 : decode (mB M_L_flush) 14 = .ok (.iconst 0, 1) := by decide +kernel
theorem dL_flush_15 : decode (mB M_L_flush) 15 = .ok (.ireturn, 1) := by decide +kernel
def b_L_flush_0 (v0 : Nat) (v1 : Nat) (h : HP) : Option (Int32 × HP) :=
  (f_X7_flush h v0).bind fun y1 => sw y1.1 (fun r => (wL y1.2 v1 0 (Int32.toInt64 r)).bind fun h2 => some (0, h2)) (fun E => if E = "java/lang/IllegalStateException" then some (1, y1.2) else none)
def f_L_flush (h : HP) (v0 : Nat) (v1 : Nat) : Option (Int32 × HP) := b_L_flush_0 v0 v1 h
theorem w_L_flush_0 {l : Launch} {X : SCR} {Q : PST} {res : Int32 × HP} {h : HP} (hQ : ∀ sz', Q (.inl (some (.int res.1))) res.2 sz') (hlt : l.stackTraces = false) (hX : X.2 = some [(0, 8, 11, 15)]) {v0 : Nat} {v1 : Nat} {sz : Nat} (hf : b_L_flush_0 v0 v1 h  = some res) : SP l X M_L_flush 0 [(0, .ref v0), (1, .ref v1)] [] h sz 1 6 Q := by
  rw [b_L_flush_0] at hf
  refine sp_aload_n (pc := 0) dL_flush_0 1 rfl ?_
  refine sp_iconst (pc := 1) (v := 0) dL_flush_1 (by decide) ?_
  refine sp_aload_n (pc := 2) dL_flush_2 0 rfl ?_
  obtain ⟨y1, ey1, hf⟩ := ob hf
  obtain ⟨fsy1, hoy1⟩ := o_X7_flush ey1
  refine sp_callT (pc := 3) (hh9 := [(0, 8, 11, 15)]) (z := M_X7_flush) (As := []) (b := v0) (bc2 := 0) (bs2 := 0) (m_X7_flush (Q := _) (fun sz => ?_) hlt ey1) hX rfl dL_flush_3 hoy1 rfl rfl bk_839 ck_L_flush_52 (Nat.le_of_ble_eq_true rfl) rfl rfl rfl
  rcases hsy1 : y1.1 with r | E
  · rw [hsy1] at hf
    simp only [sw] at hf
    refine Or.inl ⟨r, rfl, ?_⟩
    refine sp_i2l (pc := 6) dL_flush_6 ?_
    obtain ⟨h2, eh2, hf⟩ := ob hf
    refine sp_wL (pc := 7) dL_flush_7 eh2 (fun sz => ?_)
    refine sp_goto (pc := 8) (tgt := 14) dL_flush_8 (by decide) ?_
    refine sp_iconst (pc := 14) (v := 0) dL_flush_14 (by decide) ?_
    obtain rfl := Option.some.inj hf
    exact sp_ireturn (pc := 15) dL_flush_15 rfl rfl (hQ _)
  · rw [hsy1] at hf
    simp only [sw] at hf
    by_cases c3 : E = "java/lang/IllegalStateException"
    · rw [if_pos c3] at hf
      subst c3
      refine Or.inr ⟨_, 11, rfl, hd_L_flush_IllegalStateException, fun qx => ?_⟩
      refine sp_astore_n (pc := 11) (lv' := [(2, .ref qx), (0, .ref v0), (1, .ref v1)]) dL_flush_11 (by decide) rfl ?_
      refine sp_iconst (pc := 12) (v := 1) dL_flush_12 (by decide) ?_
      obtain rfl := Option.some.inj hf
      exact sp_ireturn (pc := 13) dL_flush_13 rfl rfl (hQ _)
    rw [if_neg c3] at hf
    cases hf

theorem m_L_flush {l : Launch} {Q : PST} {h : HP} {v0 : Nat} {v1 : Nat} {sz : Nat} {res : Int32 × HP} (hQ : ∀ sz', Q (.inl (some (.int res.1))) res.2 sz') (hlt : l.stackTraces = false) (hf : f_L_flush h v0 v1 = some res) : MMW l M_L_flush [(0, 8, 11, 15)] [.ref v0, .ref v1] h sz Q := by
  rw [f_L_flush] at hf
  exact MMW_of wokW_L_flush (by decide +kernel) (Nat.le_of_ble_eq_true rfl) (w_L_flush_0 hQ hlt rfl hf)

theorem dL_merge_0 : decode (mB M_L_merge) 0 = .ok (.aload_n 2, 1) := by decide +kernel
theorem dL_merge_1 : decode (mB M_L_merge) 1 = .ok (.iconst 0, 1) := by decide +kernel
theorem dL_merge_2 : decode (mB M_L_merge) 2 = .ok (.aload_n 0, 1) := by decide +kernel
theorem dL_merge_3 : decode (mB M_L_merge) 3 = .ok (.iload_n 1, 1) := by decide +kernel
theorem dL_merge_4 : decode (mB M_L_merge) 4 = .ok (.invokevirtual 55, 3) := by decide +kernel
theorem dL_merge_7 : decode (mB M_L_merge) 7 = .ok (.i2l, 1) := by decide +kernel
theorem dL_merge_8 : decode (mB M_L_merge) 8 = .ok (.lastore, 1) := by decide +kernel
theorem dL_merge_9 : decode (mB M_L_merge) 9 = .ok (.goto 9, 3) := by decide +kernel
theorem dL_merge_12 : decode (mB M_L_merge) 12 = .ok (.astore_n 3, 1) := by decide +kernel
theorem dL_merge_13 : decode (mB M_L_merge) 13 = .ok (.iconst 1, 1) := by decide +kernel
theorem dL_merge_14 : decode (mB M_L_merge) 14 = .ok (.ireturn, 1) := by decide +kernel
theorem dL_merge_15 : decode (mB M_L_merge) 15 = .ok (.astore_n 3, 1) := by decide +kernel
theorem dL_merge_16 : decode (mB M_L_merge) 16 = .ok (.iconst 2, 1) := by decide +kernel
theorem dL_merge_17 : decode (mB M_L_merge) 17 = .ok (.ireturn, 1) := by decide +kernel
theorem dL_merge_18 : decode (mB M_L_merge) 18 = .ok (.iconst 0, 1) := by decide +kernel
theorem dL_merge_19 : decode (mB M_L_merge) 19 = .ok (.ireturn, 1) := by decide +kernel
def b_L_merge_0 (v0 : Nat) (v1 : Int32) (v2 : Nat) (h : HP) : Option (Int32 × HP) :=
  (f_X7_merge h v0 v1).bind fun y1 => sw y1.1 (fun r => (wL y1.2 v2 0 (Int32.toInt64 r)).bind fun h2 => some (0, h2)) (fun E => if E = "java/lang/IndexOutOfBoundsException" then some (1, y1.2) else if E = "java/lang/IllegalStateException" then some (2, y1.2) else none)
def f_L_merge (h : HP) (v0 : Nat) (v1 : Int32) (v2 : Nat) : Option (Int32 × HP) := b_L_merge_0 v0 v1 v2 h
theorem w_L_merge_0 {l : Launch} {X : SCR} {Q : PST} {res : Int32 × HP} {h : HP} (hQ : ∀ sz', Q (.inl (some (.int res.1))) res.2 sz') (hlt : l.stackTraces = false) (hX : X.2 = some [(0, 9, 12, 28), (0, 9, 15, 15)]) {v0 : Nat} {v1 : Int32} {v2 : Nat} {sz : Nat} (hf : b_L_merge_0 v0 v1 v2 h  = some res) : SP l X M_L_merge 0 [(0, .ref v0), (1, .int v1), (2, .ref v2)] [] h sz 1 6 Q := by
  rw [b_L_merge_0] at hf
  refine sp_aload_n (pc := 0) dL_merge_0 2 rfl ?_
  refine sp_iconst (pc := 1) (v := 0) dL_merge_1 (by decide) ?_
  refine sp_aload_n (pc := 2) dL_merge_2 0 rfl ?_
  refine sp_iload_n (pc := 3) dL_merge_3 1 rfl ?_
  obtain ⟨y1, ey1, hf⟩ := ob hf
  obtain ⟨fsy1, hoy1⟩ := o_X7_merge ey1
  refine sp_callT (pc := 4) (hh9 := [(0, 9, 12, 28), (0, 9, 15, 15)]) (z := M_X7_merge) (As := [.int v1]) (b := v0) (bc2 := 0) (bs2 := 0) (m_X7_merge (Q := _) (fun sz => ?_) hlt ey1) hX rfl dL_merge_4 hoy1 rfl rfl bk_848 ck_L_merge_55 (Nat.le_of_ble_eq_true rfl) rfl rfl rfl
  rcases hsy1 : y1.1 with r | E
  · rw [hsy1] at hf
    simp only [sw] at hf
    refine Or.inl ⟨r, rfl, ?_⟩
    refine sp_i2l (pc := 7) dL_merge_7 ?_
    obtain ⟨h2, eh2, hf⟩ := ob hf
    refine sp_wL (pc := 8) dL_merge_8 eh2 (fun sz => ?_)
    refine sp_goto (pc := 9) (tgt := 18) dL_merge_9 (by decide) ?_
    refine sp_iconst (pc := 18) (v := 0) dL_merge_18 (by decide) ?_
    obtain rfl := Option.some.inj hf
    exact sp_ireturn (pc := 19) dL_merge_19 rfl rfl (hQ _)
  · rw [hsy1] at hf
    simp only [sw] at hf
    by_cases c3 : E = "java/lang/IndexOutOfBoundsException"
    · rw [if_pos c3] at hf
      subst c3
      refine Or.inr ⟨_, 12, rfl, hd_L_merge_IndexOutOfBoundsException, fun qx => ?_⟩
      refine sp_astore_n (pc := 12) (lv' := [(3, .ref qx), (0, .ref v0), (1, .int v1), (2, .ref v2)]) dL_merge_12 (by decide) rfl ?_
      refine sp_iconst (pc := 13) (v := 1) dL_merge_13 (by decide) ?_
      obtain rfl := Option.some.inj hf
      exact sp_ireturn (pc := 14) dL_merge_14 rfl rfl (hQ _)
    rw [if_neg c3] at hf
    by_cases c4 : E = "java/lang/IllegalStateException"
    · rw [if_pos c4] at hf
      subst c4
      refine Or.inr ⟨_, 15, rfl, hd_L_merge_IllegalStateException, fun qx => ?_⟩
      refine sp_astore_n (pc := 15) (lv' := [(3, .ref qx), (0, .ref v0), (1, .int v1), (2, .ref v2)]) dL_merge_15 (by decide) rfl ?_
      refine sp_iconst (pc := 16) (v := 2) dL_merge_16 (by decide) ?_
      obtain rfl := Option.some.inj hf
      exact sp_ireturn (pc := 17) dL_merge_17 rfl rfl (hQ _)
    rw [if_neg c4] at hf
    cases hf

theorem m_L_merge {l : Launch} {Q : PST} {h : HP} {v0 : Nat} {v1 : Int32} {v2 : Nat} {sz : Nat} {res : Int32 × HP} (hQ : ∀ sz', Q (.inl (some (.int res.1))) res.2 sz') (hlt : l.stackTraces = false) (hf : f_L_merge h v0 v1 v2 = some res) : MMW l M_L_merge [(0, 9, 12, 28), (0, 9, 15, 15)] [.ref v0, .int v1, .ref v2] h sz Q := by
  rw [f_L_merge] at hf
  exact MMW_of wokW_L_merge (by decide +kernel) (Nat.le_of_ble_eq_true rfl) (w_L_merge_0 hQ hlt rfl hf)

theorem dL_undo_0 : decode (mB M_L_undo) 0 = .ok (.aload_n 1, 1) := by decide +kernel
theorem dL_undo_1 : decode (mB M_L_undo) 1 = .ok (.iconst 0, 1) := by decide +kernel
theorem dL_undo_2 : decode (mB M_L_undo) 2 = .ok (.aload_n 0, 1) := by decide +kernel
theorem dL_undo_3 : decode (mB M_L_undo) 3 = .ok (.invokevirtual 58, 3) := by decide +kernel
theorem dL_undo_6 : decode (mB M_L_undo) 6 = .ok (.i2l, 1) := by decide +kernel
theorem dL_undo_7 : decode (mB M_L_undo) 7 = .ok (.lastore, 1) := by decide +kernel
theorem dL_undo_8 : decode (mB M_L_undo) 8 = .ok (.goto 6, 3) := by decide +kernel
theorem dL_undo_11 : decode (mB M_L_undo) 11 = .ok (.astore_n 2, 1) := by decide +kernel
theorem dL_undo_12 : decode (mB M_L_undo) 12 = .ok (.iconst 1, 1) := by decide +kernel
theorem dL_undo_13 : decode (mB M_L_undo) 13 = .ok (.ireturn, 1) := by decide +kernel
theorem dL_undo_14 : decode (mB M_L_undo) 14 = .ok (.iconst 0, 1) := by decide +kernel
theorem dL_undo_15 : decode (mB M_L_undo) 15 = .ok (.ireturn, 1) := by decide +kernel
def b_L_undo_0 (v0 : Nat) (v1 : Nat) (h : HP) : Option (Int32 × HP) :=
  (f_X7_undo h v0).bind fun y1 => sw y1.1 (fun r => (wL y1.2 v1 0 (Int32.toInt64 r)).bind fun h2 => some (0, h2)) (fun E => if E = "java/lang/IllegalStateException" then some (1, y1.2) else none)
def f_L_undo (h : HP) (v0 : Nat) (v1 : Nat) : Option (Int32 × HP) := b_L_undo_0 v0 v1 h
theorem w_L_undo_0 {l : Launch} {X : SCR} {Q : PST} {res : Int32 × HP} {h : HP} (hQ : ∀ sz', Q (.inl (some (.int res.1))) res.2 sz') (hlt : l.stackTraces = false) (hX : X.2 = some [(0, 8, 11, 15)]) {v0 : Nat} {v1 : Nat} {sz : Nat} (hf : b_L_undo_0 v0 v1 h  = some res) : SP l X M_L_undo 0 [(0, .ref v0), (1, .ref v1)] [] h sz 1 6 Q := by
  rw [b_L_undo_0] at hf
  refine sp_aload_n (pc := 0) dL_undo_0 1 rfl ?_
  refine sp_iconst (pc := 1) (v := 0) dL_undo_1 (by decide) ?_
  refine sp_aload_n (pc := 2) dL_undo_2 0 rfl ?_
  obtain ⟨y1, ey1, hf⟩ := ob hf
  obtain ⟨fsy1, hoy1⟩ := o_X7_undo ey1
  refine sp_callT (pc := 3) (hh9 := [(0, 8, 11, 15)]) (z := M_X7_undo) (As := []) (b := v0) (bc2 := 0) (bs2 := 0) (m_X7_undo (Q := _) (fun sz => ?_) hlt ey1) hX rfl dL_undo_3 hoy1 rfl rfl bk_857 ck_L_undo_58 (Nat.le_of_ble_eq_true rfl) rfl rfl rfl
  rcases hsy1 : y1.1 with r | E
  · rw [hsy1] at hf
    simp only [sw] at hf
    refine Or.inl ⟨r, rfl, ?_⟩
    refine sp_i2l (pc := 6) dL_undo_6 ?_
    obtain ⟨h2, eh2, hf⟩ := ob hf
    refine sp_wL (pc := 7) dL_undo_7 eh2 (fun sz => ?_)
    refine sp_goto (pc := 8) (tgt := 14) dL_undo_8 (by decide) ?_
    refine sp_iconst (pc := 14) (v := 0) dL_undo_14 (by decide) ?_
    obtain rfl := Option.some.inj hf
    exact sp_ireturn (pc := 15) dL_undo_15 rfl rfl (hQ _)
  · rw [hsy1] at hf
    simp only [sw] at hf
    by_cases c3 : E = "java/lang/IllegalStateException"
    · rw [if_pos c3] at hf
      subst c3
      refine Or.inr ⟨_, 11, rfl, hd_L_undo_IllegalStateException, fun qx => ?_⟩
      refine sp_astore_n (pc := 11) (lv' := [(2, .ref qx), (0, .ref v0), (1, .ref v1)]) dL_undo_11 (by decide) rfl ?_
      refine sp_iconst (pc := 12) (v := 1) dL_undo_12 (by decide) ?_
      obtain rfl := Option.some.inj hf
      exact sp_ireturn (pc := 13) dL_undo_13 rfl rfl (hQ _)
    rw [if_neg c3] at hf
    cases hf

theorem m_L_undo {l : Launch} {Q : PST} {h : HP} {v0 : Nat} {v1 : Nat} {sz : Nat} {res : Int32 × HP} (hQ : ∀ sz', Q (.inl (some (.int res.1))) res.2 sz') (hlt : l.stackTraces = false) (hf : f_L_undo h v0 v1 = some res) : MMW l M_L_undo [(0, 8, 11, 15)] [.ref v0, .ref v1] h sz Q := by
  rw [f_L_undo] at hf
  exact MMW_of wokW_L_undo (by decide +kernel) (Nat.le_of_ble_eq_true rfl) (w_L_undo_0 hQ hlt rfl hf)

theorem dL_looks_0 : decode (mB M_L_looks) 0 = .ok (.aload_n 2, 1) := by decide +kernel
theorem dL_looks_1 : decode (mB M_L_looks) 1 = .ok (.iconst 0, 1) := by decide +kernel
theorem dL_looks_2 : decode (mB M_L_looks) 2 = .ok (.aload_n 0, 1) := by decide +kernel
theorem dL_looks_3 : decode (mB M_L_looks) 3 = .ok (.iload_n 1, 1) := by decide +kernel
theorem dL_looks_4 : decode (mB M_L_looks) 4 = .ok (.invokevirtual 61, 3) := by decide +kernel
theorem dL_looks_7 : decode (mB M_L_looks) 7 = .ok (.i2l, 1) := by decide +kernel
theorem dL_looks_8 : decode (mB M_L_looks) 8 = .ok (.lastore, 1) := by decide +kernel
theorem dL_looks_9 : decode (mB M_L_looks) 9 = .ok (.goto 6, 3) := by decide +kernel
theorem dL_looks_12 : decode (mB M_L_looks) 12 = .ok (.astore_n 3, 1) := by decide +kernel
theorem dL_looks_13 : decode (mB M_L_looks) 13 = .ok (.iconst 1, 1) := by decide +kernel
theorem dL_looks_14 : decode (mB M_L_looks) 14 = .ok (.ireturn, 1) := by decide +kernel
theorem dL_looks_15 : decode (mB M_L_looks) 15 = .ok (.iconst 0, 1) := by decide +kernel
theorem dL_looks_16 : decode (mB M_L_looks) 16 = .ok (.ireturn, 1) := by decide +kernel
def b_L_looks_0 (v0 : Nat) (v1 : Int32) (v2 : Nat) (h : HP) : Option (Int32 × HP) :=
  (f_X7_looks h v0 v1).bind fun y1 => sw y1 (fun r => (wL h v2 0 (Int32.toInt64 r)).bind fun h2 => some (0, h2)) (fun E => if E = "java/lang/IndexOutOfBoundsException" then some (1, h) else none)
def f_L_looks (h : HP) (v0 : Nat) (v1 : Int32) (v2 : Nat) : Option (Int32 × HP) := b_L_looks_0 v0 v1 v2 h
theorem w_L_looks_0 {l : Launch} {X : SCR} {Q : PST} {res : Int32 × HP} {h : HP} (hQ : ∀ sz', Q (.inl (some (.int res.1))) res.2 sz') (hlt : l.stackTraces = false) (hX : X.2 = some [(0, 9, 12, 28)]) {v0 : Nat} {v1 : Int32} {v2 : Nat} {sz : Nat} (hf : b_L_looks_0 v0 v1 v2 h  = some res) : SP l X M_L_looks 0 [(0, .ref v0), (1, .int v1), (2, .ref v2)] [] h sz 1 6 Q := by
  rw [b_L_looks_0] at hf
  refine sp_aload_n (pc := 0) dL_looks_0 2 rfl ?_
  refine sp_iconst (pc := 1) (v := 0) dL_looks_1 (by decide) ?_
  refine sp_aload_n (pc := 2) dL_looks_2 0 rfl ?_
  refine sp_iload_n (pc := 3) dL_looks_3 1 rfl ?_
  obtain ⟨y1, ey1, hf⟩ := ob hf
  obtain ⟨fsy1, hoy1⟩ := o_X7_looks ey1
  refine sp_callT (pc := 4) (hh9 := [(0, 9, 12, 28)]) (z := M_X7_looks) (As := [.int v1]) (b := v0) (bc2 := 0) (bs2 := 0) (m_X7_looks (Q := _) (fun sz => ?_) hlt ey1) hX rfl dL_looks_4 hoy1 rfl rfl bk_873 ck_L_looks_61 (Nat.le_of_ble_eq_true rfl) rfl rfl rfl
  rcases y1 with r | E
  · skip
    simp only [sw] at hf
    refine Or.inl ⟨r, rfl, ?_⟩
    refine sp_i2l (pc := 7) dL_looks_7 ?_
    obtain ⟨h2, eh2, hf⟩ := ob hf
    refine sp_wL (pc := 8) dL_looks_8 eh2 (fun sz => ?_)
    refine sp_goto (pc := 9) (tgt := 15) dL_looks_9 (by decide) ?_
    refine sp_iconst (pc := 15) (v := 0) dL_looks_15 (by decide) ?_
    obtain rfl := Option.some.inj hf
    exact sp_ireturn (pc := 16) dL_looks_16 rfl rfl (hQ _)
  · skip
    simp only [sw] at hf
    by_cases c3 : E = "java/lang/IndexOutOfBoundsException"
    · rw [if_pos c3] at hf
      subst c3
      refine Or.inr ⟨_, 12, rfl, hd_L_looks_IndexOutOfBoundsException, fun qx => ?_⟩
      refine sp_astore_n (pc := 12) (lv' := [(3, .ref qx), (0, .ref v0), (1, .int v1), (2, .ref v2)]) dL_looks_12 (by decide) rfl ?_
      refine sp_iconst (pc := 13) (v := 1) dL_looks_13 (by decide) ?_
      obtain rfl := Option.some.inj hf
      exact sp_ireturn (pc := 14) dL_looks_14 rfl rfl (hQ _)
    rw [if_neg c3] at hf
    cases hf

theorem m_L_looks {l : Launch} {Q : PST} {h : HP} {v0 : Nat} {v1 : Int32} {v2 : Nat} {sz : Nat} {res : Int32 × HP} (hQ : ∀ sz', Q (.inl (some (.int res.1))) res.2 sz') (hlt : l.stackTraces = false) (hf : f_L_looks h v0 v1 v2 = some res) : MMW l M_L_looks [(0, 9, 12, 28)] [.ref v0, .int v1, .ref v2] h sz Q := by
  rw [f_L_looks] at hf
  exact MMW_of wokW_L_looks (by decide +kernel) (Nat.le_of_ble_eq_true rfl) (w_L_looks_0 hQ hlt rfl hf)

theorem dL_next_0 : decode (mB M_L_next) 0 = .ok (.aload_n 3, 1) := by decide +kernel
theorem dL_next_1 : decode (mB M_L_next) 1 = .ok (.iconst 0, 1) := by decide +kernel
theorem dL_next_2 : decode (mB M_L_next) 2 = .ok (.aload_n 0, 1) := by decide +kernel
theorem dL_next_3 : decode (mB M_L_next) 3 = .ok (.iload_n 1, 1) := by decide +kernel
theorem dL_next_4 : decode (mB M_L_next) 4 = .ok (.iload_n 2, 1) := by decide +kernel
theorem dL_next_5 : decode (mB M_L_next) 5 = .ok (.invokevirtual 64, 3) := by decide +kernel
theorem dL_next_8 : decode (mB M_L_next) 8 = .ok (.i2l, 1) := by decide +kernel
theorem dL_next_9 : decode (mB M_L_next) 9 = .ok (.lastore, 1) := by decide +kernel
theorem dL_next_10 : decode (mB M_L_next) 10 = .ok (.goto 7, 3) := by decide +kernel
theorem dL_next_13 : decode (mB M_L_next) 13 = .ok (.astore 4, 2) := by decide +kernel
theorem dL_next_15 : decode (mB M_L_next) 15 = .ok (.iconst 1, 1) := by decide +kernel
theorem dL_next_16 : decode (mB M_L_next) 16 = .ok (.ireturn, 1) := by decide +kernel
theorem dL_next_17 : decode (mB M_L_next) 17 = .ok (.iconst 0, 1) := by decide +kernel
theorem dL_next_18 : decode (mB M_L_next) 18 = .ok (.ireturn, 1) := by decide +kernel
def b_L_next_0 (v0 : Nat) (v1 : Int32) (v2 : Int32) (v3 : Nat) (h : HP) : Option (Int32 × HP) :=
  (f_X7_next h v0 v1 v2).bind fun y1 => sw y1.1 (fun r => (wL y1.2 v3 0 (Int32.toInt64 r)).bind fun h2 => some (0, h2)) (fun E => if E = "java/lang/IndexOutOfBoundsException" then some (1, y1.2) else none)
def f_L_next (h : HP) (v0 : Nat) (v1 : Int32) (v2 : Int32) (v3 : Nat) : Option (Int32 × HP) := b_L_next_0 v0 v1 v2 v3 h
theorem w_L_next_0 {l : Launch} {X : SCR} {Q : PST} {res : Int32 × HP} {h : HP} (hQ : ∀ sz', Q (.inl (some (.int res.1))) res.2 sz') (hlt : l.stackTraces = false) (hX : X.2 = some [(0, 10, 13, 28)]) {v0 : Nat} {v1 : Int32} {v2 : Int32} {v3 : Nat} {sz : Nat} (hf : b_L_next_0 v0 v1 v2 v3 h  = some res) : SP l X M_L_next 0 [(0, .ref v0), (1, .int v1), (2, .int v2), (3, .ref v3)] [] h sz 1 6 Q := by
  rw [b_L_next_0] at hf
  refine sp_aload_n (pc := 0) dL_next_0 3 rfl ?_
  refine sp_iconst (pc := 1) (v := 0) dL_next_1 (by decide) ?_
  refine sp_aload_n (pc := 2) dL_next_2 0 rfl ?_
  refine sp_iload_n (pc := 3) dL_next_3 1 rfl ?_
  refine sp_iload_n (pc := 4) dL_next_4 2 rfl ?_
  obtain ⟨y1, ey1, hf⟩ := ob hf
  obtain ⟨fsy1, hoy1⟩ := o_X7_next ey1
  refine sp_callT (pc := 5) (hh9 := [(0, 10, 13, 28)]) (z := M_X7_next) (As := [.int v1, .int v2]) (b := v0) (bc2 := 0) (bs2 := 0) (m_X7_next (Q := _) (fun sz => ?_) hlt ey1) hX rfl dL_next_5 hoy1 rfl rfl bk_881 ck_L_next_64 (Nat.le_of_ble_eq_true rfl) rfl rfl rfl
  rcases hsy1 : y1.1 with r | E
  · rw [hsy1] at hf
    simp only [sw] at hf
    refine Or.inl ⟨r, rfl, ?_⟩
    refine sp_i2l (pc := 8) dL_next_8 ?_
    obtain ⟨h2, eh2, hf⟩ := ob hf
    refine sp_wL (pc := 9) dL_next_9 eh2 (fun sz => ?_)
    refine sp_goto (pc := 10) (tgt := 17) dL_next_10 (by decide) ?_
    refine sp_iconst (pc := 17) (v := 0) dL_next_17 (by decide) ?_
    obtain rfl := Option.some.inj hf
    exact sp_ireturn (pc := 18) dL_next_18 rfl rfl (hQ _)
  · rw [hsy1] at hf
    simp only [sw] at hf
    by_cases c3 : E = "java/lang/IndexOutOfBoundsException"
    · rw [if_pos c3] at hf
      subst c3
      refine Or.inr ⟨_, 13, rfl, hd_L_next_IndexOutOfBoundsException, fun qx => ?_⟩
      refine sp_astore (pc := 13) (lv' := [(4, .ref qx), (0, .ref v0), (1, .int v1), (2, .int v2), (3, .ref v3)]) dL_next_13 (by decide) rfl ?_
      refine sp_iconst (pc := 15) (v := 1) dL_next_15 (by decide) ?_
      obtain rfl := Option.some.inj hf
      exact sp_ireturn (pc := 16) dL_next_16 rfl rfl (hQ _)
    rw [if_neg c3] at hf
    cases hf

theorem m_L_next {l : Launch} {Q : PST} {h : HP} {v0 : Nat} {v1 : Int32} {v2 : Int32} {v3 : Nat} {sz : Nat} {res : Int32 × HP} (hQ : ∀ sz', Q (.inl (some (.int res.1))) res.2 sz') (hlt : l.stackTraces = false) (hf : f_L_next h v0 v1 v2 v3 = some res) : MMW l M_L_next [(0, 10, 13, 28)] [.ref v0, .int v1, .int v2, .ref v3] h sz Q := by
  rw [f_L_next] at hf
  exact MMW_of wokW_L_next (by decide +kernel) (Nat.le_of_ble_eq_true rfl) (w_L_next_0 hQ hlt rfl hf)

theorem dL_count_0 : decode (mB M_L_count) 0 = .ok (.aload 4, 2) := by decide +kernel
theorem dL_count_2 : decode (mB M_L_count) 2 = .ok (.iconst 0, 1) := by decide +kernel
theorem dL_count_3 : decode (mB M_L_count) 3 = .ok (.aload_n 0, 1) := by decide +kernel
theorem dL_count_4 : decode (mB M_L_count) 4 = .ok (.iload_n 1, 1) := by decide +kernel
theorem dL_count_5 : decode (mB M_L_count) 5 = .ok (.iload_n 2, 1) := by decide +kernel
theorem dL_count_6 : decode (mB M_L_count) 6 = .ok (.iload_n 3, 1) := by decide +kernel
theorem dL_count_7 : decode (mB M_L_count) 7 = .ok (.invokevirtual 67, 3) := by decide +kernel
theorem dL_count_10 : decode (mB M_L_count) 10 = .ok (.i2l, 1) := by decide +kernel
theorem dL_count_11 : decode (mB M_L_count) 11 = .ok (.lastore, 1) := by decide +kernel
theorem dL_count_12 : decode (mB M_L_count) 12 = .ok (.goto 11, 3) := by decide +kernel
theorem dL_count_15 : decode (mB M_L_count) 15 = .ok (.astore 5, 2) := by decide +kernel
theorem dL_count_17 : decode (mB M_L_count) 17 = .ok (.iconst 1, 1) := by decide +kernel
theorem dL_count_18 : decode (mB M_L_count) 18 = .ok (.ireturn, 1) := by decide +kernel
theorem dL_count_19 : decode (mB M_L_count) 19 = .ok (.astore 5, 2) := by decide +kernel
theorem dL_count_21 : decode (mB M_L_count) 21 = .ok (.iconst 2, 1) := by decide +kernel
theorem dL_count_22 : decode (mB M_L_count) 22 = .ok (.ireturn, 1) := by decide +kernel
theorem dL_count_23 : decode (mB M_L_count) 23 = .ok (.iconst 0, 1) := by decide +kernel
theorem dL_count_24 : decode (mB M_L_count) 24 = .ok (.ireturn, 1) := by decide +kernel
def b_L_count_0 (v0 : Nat) (v1 : Int32) (v2 : Int32) (v3 : Int32) (v4 : Nat) (h : HP) : Option (Int32 × HP) :=
  (f_X7_count h v0 v1 v2 v3).bind fun y1 => sw y1.1 (fun r => (wL y1.2 v4 0 (Int32.toInt64 r)).bind fun h2 => some (0, h2)) (fun E => if E = "java/lang/IndexOutOfBoundsException" then some (1, y1.2) else if E = "java/lang/IllegalArgumentException" then some (2, y1.2) else none)
def f_L_count (h : HP) (v0 : Nat) (v1 : Int32) (v2 : Int32) (v3 : Int32) (v4 : Nat) : Option (Int32 × HP) := b_L_count_0 v0 v1 v2 v3 v4 h
theorem w_L_count_0 {l : Launch} {X : SCR} {Q : PST} {res : Int32 × HP} {h : HP} (hQ : ∀ sz', Q (.inl (some (.int res.1))) res.2 sz') (hlt : l.stackTraces = false) (hX : X.2 = some [(0, 12, 15, 28), (0, 12, 19, 13)]) {v0 : Nat} {v1 : Int32} {v2 : Int32} {v3 : Int32} {v4 : Nat} {sz : Nat} (hf : b_L_count_0 v0 v1 v2 v3 v4 h  = some res) : SP l X M_L_count 0 [(0, .ref v0), (1, .int v1), (2, .int v2), (3, .int v3), (4, .ref v4)] [] h sz 1 6 Q := by
  rw [b_L_count_0] at hf
  refine sp_aload (pc := 0) dL_count_0 4 rfl ?_
  refine sp_iconst (pc := 2) (v := 0) dL_count_2 (by decide) ?_
  refine sp_aload_n (pc := 3) dL_count_3 0 rfl ?_
  refine sp_iload_n (pc := 4) dL_count_4 1 rfl ?_
  refine sp_iload_n (pc := 5) dL_count_5 2 rfl ?_
  refine sp_iload_n (pc := 6) dL_count_6 3 rfl ?_
  obtain ⟨y1, ey1, hf⟩ := ob hf
  obtain ⟨fsy1, hoy1⟩ := o_X7_count ey1
  refine sp_callT (pc := 7) (hh9 := [(0, 12, 15, 28), (0, 12, 19, 13)]) (z := M_X7_count) (As := [.int v1, .int v2, .int v3]) (b := v0) (bc2 := 0) (bs2 := 0) (m_X7_count (Q := _) (fun sz => ?_) hlt ey1) hX rfl dL_count_7 hoy1 rfl rfl bk_892 ck_L_count_67 (Nat.le_of_ble_eq_true rfl) rfl rfl rfl
  rcases hsy1 : y1.1 with r | E
  · rw [hsy1] at hf
    simp only [sw] at hf
    refine Or.inl ⟨r, rfl, ?_⟩
    refine sp_i2l (pc := 10) dL_count_10 ?_
    obtain ⟨h2, eh2, hf⟩ := ob hf
    refine sp_wL (pc := 11) dL_count_11 eh2 (fun sz => ?_)
    refine sp_goto (pc := 12) (tgt := 23) dL_count_12 (by decide) ?_
    refine sp_iconst (pc := 23) (v := 0) dL_count_23 (by decide) ?_
    obtain rfl := Option.some.inj hf
    exact sp_ireturn (pc := 24) dL_count_24 rfl rfl (hQ _)
  · rw [hsy1] at hf
    simp only [sw] at hf
    by_cases c3 : E = "java/lang/IndexOutOfBoundsException"
    · rw [if_pos c3] at hf
      subst c3
      refine Or.inr ⟨_, 15, rfl, hd_L_count_IndexOutOfBoundsException, fun qx => ?_⟩
      refine sp_astore (pc := 15) (lv' := [(5, .ref qx), (0, .ref v0), (1, .int v1), (2, .int v2), (3, .int v3), (4, .ref v4)]) dL_count_15 (by decide) rfl ?_
      refine sp_iconst (pc := 17) (v := 1) dL_count_17 (by decide) ?_
      obtain rfl := Option.some.inj hf
      exact sp_ireturn (pc := 18) dL_count_18 rfl rfl (hQ _)
    rw [if_neg c3] at hf
    by_cases c4 : E = "java/lang/IllegalArgumentException"
    · rw [if_pos c4] at hf
      subst c4
      refine Or.inr ⟨_, 19, rfl, hd_L_count_IllegalArgumentException, fun qx => ?_⟩
      refine sp_astore (pc := 19) (lv' := [(5, .ref qx), (0, .ref v0), (1, .int v1), (2, .int v2), (3, .int v3), (4, .ref v4)]) dL_count_19 (by decide) rfl ?_
      refine sp_iconst (pc := 21) (v := 2) dL_count_21 (by decide) ?_
      obtain rfl := Option.some.inj hf
      exact sp_ireturn (pc := 22) dL_count_22 rfl rfl (hQ _)
    rw [if_neg c4] at hf
    cases hf

theorem m_L_count {l : Launch} {Q : PST} {h : HP} {v0 : Nat} {v1 : Int32} {v2 : Int32} {v3 : Int32} {v4 : Nat} {sz : Nat} {res : Int32 × HP} (hQ : ∀ sz', Q (.inl (some (.int res.1))) res.2 sz') (hlt : l.stackTraces = false) (hf : f_L_count h v0 v1 v2 v3 v4 = some res) : MMW l M_L_count [(0, 12, 15, 28), (0, 12, 19, 13)] [.ref v0, .int v1, .int v2, .int v3, .ref v4] h sz Q := by
  rw [f_L_count] at hf
  exact MMW_of wokW_L_count (by decide +kernel) (Nat.le_of_ble_eq_true rfl) (w_L_count_0 hQ hlt rfl hf)

theorem dL_grave_0 : decode (mB M_L_grave) 0 = .ok (.aload_n 2, 1) := by decide +kernel
theorem dL_grave_1 : decode (mB M_L_grave) 1 = .ok (.iconst 0, 1) := by decide +kernel
theorem dL_grave_2 : decode (mB M_L_grave) 2 = .ok (.aload_n 0, 1) := by decide +kernel
theorem dL_grave_3 : decode (mB M_L_grave) 3 = .ok (.iload_n 1, 1) := by decide +kernel
theorem dL_grave_4 : decode (mB M_L_grave) 4 = .ok (.invokevirtual 70, 3) := by decide +kernel
theorem dL_grave_7 : decode (mB M_L_grave) 7 = .ok (.i2l, 1) := by decide +kernel
theorem dL_grave_8 : decode (mB M_L_grave) 8 = .ok (.lastore, 1) := by decide +kernel
theorem dL_grave_9 : decode (mB M_L_grave) 9 = .ok (.goto 6, 3) := by decide +kernel
theorem dL_grave_12 : decode (mB M_L_grave) 12 = .ok (.astore_n 3, 1) := by decide +kernel
theorem dL_grave_13 : decode (mB M_L_grave) 13 = .ok (.iconst 1, 1) := by decide +kernel
theorem dL_grave_14 : decode (mB M_L_grave) 14 = .ok (.ireturn, 1) := by decide +kernel
theorem dL_grave_15 : decode (mB M_L_grave) 15 = .ok (.iconst 0, 1) := by decide +kernel
theorem dL_grave_16 : decode (mB M_L_grave) 16 = .ok (.ireturn, 1) := by decide +kernel
def b_L_grave_0 (v0 : Nat) (v1 : Int32) (v2 : Nat) (h : HP) : Option (Int32 × HP) :=
  (f_X7_grave h v0 v1).bind fun y1 => sw y1 (fun r => (wL h v2 0 (Int32.toInt64 r)).bind fun h2 => some (0, h2)) (fun E => if E = "java/lang/IndexOutOfBoundsException" then some (1, h) else none)
def f_L_grave (h : HP) (v0 : Nat) (v1 : Int32) (v2 : Nat) : Option (Int32 × HP) := b_L_grave_0 v0 v1 v2 h
theorem w_L_grave_0 {l : Launch} {X : SCR} {Q : PST} {res : Int32 × HP} {h : HP} (hQ : ∀ sz', Q (.inl (some (.int res.1))) res.2 sz') (hlt : l.stackTraces = false) (hX : X.2 = some [(0, 9, 12, 28)]) {v0 : Nat} {v1 : Int32} {v2 : Nat} {sz : Nat} (hf : b_L_grave_0 v0 v1 v2 h  = some res) : SP l X M_L_grave 0 [(0, .ref v0), (1, .int v1), (2, .ref v2)] [] h sz 1 6 Q := by
  rw [b_L_grave_0] at hf
  refine sp_aload_n (pc := 0) dL_grave_0 2 rfl ?_
  refine sp_iconst (pc := 1) (v := 0) dL_grave_1 (by decide) ?_
  refine sp_aload_n (pc := 2) dL_grave_2 0 rfl ?_
  refine sp_iload_n (pc := 3) dL_grave_3 1 rfl ?_
  obtain ⟨y1, ey1, hf⟩ := ob hf
  obtain ⟨fsy1, hoy1⟩ := o_X7_grave ey1
  refine sp_callT (pc := 4) (hh9 := [(0, 9, 12, 28)]) (z := M_X7_grave) (As := [.int v1]) (b := v0) (bc2 := 0) (bs2 := 0) (m_X7_grave (Q := _) (fun sz => ?_) hlt ey1) hX rfl dL_grave_4 hoy1 rfl rfl bk_899 ck_L_grave_70 (Nat.le_of_ble_eq_true rfl) rfl rfl rfl
  rcases y1 with r | E
  · skip
    simp only [sw] at hf
    refine Or.inl ⟨r, rfl, ?_⟩
    refine sp_i2l (pc := 7) dL_grave_7 ?_
    obtain ⟨h2, eh2, hf⟩ := ob hf
    refine sp_wL (pc := 8) dL_grave_8 eh2 (fun sz => ?_)
    refine sp_goto (pc := 9) (tgt := 15) dL_grave_9 (by decide) ?_
    refine sp_iconst (pc := 15) (v := 0) dL_grave_15 (by decide) ?_
    obtain rfl := Option.some.inj hf
    exact sp_ireturn (pc := 16) dL_grave_16 rfl rfl (hQ _)
  · skip
    simp only [sw] at hf
    by_cases c3 : E = "java/lang/IndexOutOfBoundsException"
    · rw [if_pos c3] at hf
      subst c3
      refine Or.inr ⟨_, 12, rfl, hd_L_grave_IndexOutOfBoundsException, fun qx => ?_⟩
      refine sp_astore_n (pc := 12) (lv' := [(3, .ref qx), (0, .ref v0), (1, .int v1), (2, .ref v2)]) dL_grave_12 (by decide) rfl ?_
      refine sp_iconst (pc := 13) (v := 1) dL_grave_13 (by decide) ?_
      obtain rfl := Option.some.inj hf
      exact sp_ireturn (pc := 14) dL_grave_14 rfl rfl (hQ _)
    rw [if_neg c3] at hf
    cases hf

theorem m_L_grave {l : Launch} {Q : PST} {h : HP} {v0 : Nat} {v1 : Int32} {v2 : Nat} {sz : Nat} {res : Int32 × HP} (hQ : ∀ sz', Q (.inl (some (.int res.1))) res.2 sz') (hlt : l.stackTraces = false) (hf : f_L_grave h v0 v1 v2 = some res) : MMW l M_L_grave [(0, 9, 12, 28)] [.ref v0, .int v1, .ref v2] h sz Q := by
  rw [f_L_grave] at hf
  exact MMW_of wokW_L_grave (by decide +kernel) (Nat.le_of_ble_eq_true rfl) (w_L_grave_0 hQ hlt rfl hf)

theorem dL_saves_0 : decode (mB M_L_saves) 0 = .ok (.aload_n 2, 1) := by decide +kernel
theorem dL_saves_1 : decode (mB M_L_saves) 1 = .ok (.iconst 0, 1) := by decide +kernel
theorem dL_saves_2 : decode (mB M_L_saves) 2 = .ok (.aload_n 0, 1) := by decide +kernel
theorem dL_saves_3 : decode (mB M_L_saves) 3 = .ok (.iload_n 1, 1) := by decide +kernel
theorem dL_saves_4 : decode (mB M_L_saves) 4 = .ok (.invokevirtual 73, 3) := by decide +kernel
theorem dL_saves_7 : decode (mB M_L_saves) 7 = .ok (.i2l, 1) := by decide +kernel
theorem dL_saves_8 : decode (mB M_L_saves) 8 = .ok (.lastore, 1) := by decide +kernel
theorem dL_saves_9 : decode (mB M_L_saves) 9 = .ok (.goto 9, 3) := by decide +kernel
theorem dL_saves_12 : decode (mB M_L_saves) 12 = .ok (.astore_n 3, 1) := by decide +kernel
theorem dL_saves_13 : decode (mB M_L_saves) 13 = .ok (.iconst 1, 1) := by decide +kernel
theorem dL_saves_14 : decode (mB M_L_saves) 14 = .ok (.ireturn, 1) := by decide +kernel
theorem dL_saves_15 : decode (mB M_L_saves) 15 = .ok (.astore_n 3, 1) := by decide +kernel
theorem dL_saves_16 : decode (mB M_L_saves) 16 = .ok (.iconst 2, 1) := by decide +kernel
theorem dL_saves_17 : decode (mB M_L_saves) 17 = .ok (.ireturn, 1) := by decide +kernel
theorem dL_saves_18 : decode (mB M_L_saves) 18 = .ok (.iconst 0, 1) := by decide +kernel
theorem dL_saves_19 : decode (mB M_L_saves) 19 = .ok (.ireturn, 1) := by decide +kernel
def b_L_saves_0 (v0 : Nat) (v1 : Int32) (v2 : Nat) (h : HP) : Option (Int32 × HP) :=
  (f_X7_saves h v0 v1).bind fun y1 => sw y1.1 (fun r => (wL y1.2 v2 0 (Int32.toInt64 r)).bind fun h2 => some (0, h2)) (fun E => if E = "java/lang/IndexOutOfBoundsException" then some (1, y1.2) else if E = "java/lang/IllegalStateException" then some (2, y1.2) else none)
def f_L_saves (h : HP) (v0 : Nat) (v1 : Int32) (v2 : Nat) : Option (Int32 × HP) := b_L_saves_0 v0 v1 v2 h
theorem w_L_saves_0 {l : Launch} {X : SCR} {Q : PST} {res : Int32 × HP} {h : HP} (hQ : ∀ sz', Q (.inl (some (.int res.1))) res.2 sz') (hlt : l.stackTraces = false) (hX : X.2 = some [(0, 9, 12, 28), (0, 9, 15, 15)]) {v0 : Nat} {v1 : Int32} {v2 : Nat} {sz : Nat} (hf : b_L_saves_0 v0 v1 v2 h  = some res) : SP l X M_L_saves 0 [(0, .ref v0), (1, .int v1), (2, .ref v2)] [] h sz 1 6 Q := by
  rw [b_L_saves_0] at hf
  refine sp_aload_n (pc := 0) dL_saves_0 2 rfl ?_
  refine sp_iconst (pc := 1) (v := 0) dL_saves_1 (by decide) ?_
  refine sp_aload_n (pc := 2) dL_saves_2 0 rfl ?_
  refine sp_iload_n (pc := 3) dL_saves_3 1 rfl ?_
  obtain ⟨y1, ey1, hf⟩ := ob hf
  obtain ⟨fsy1, hoy1⟩ := o_X7_saves ey1
  refine sp_callT (pc := 4) (hh9 := [(0, 9, 12, 28), (0, 9, 15, 15)]) (z := M_X7_saves) (As := [.int v1]) (b := v0) (bc2 := 0) (bs2 := 0) (m_X7_saves (Q := _) (fun sz => ?_) hlt ey1) hX rfl dL_saves_4 hoy1 rfl rfl bk_907 ck_L_saves_73 (Nat.le_of_ble_eq_true rfl) rfl rfl rfl
  rcases hsy1 : y1.1 with r | E
  · rw [hsy1] at hf
    simp only [sw] at hf
    refine Or.inl ⟨r, rfl, ?_⟩
    refine sp_i2l (pc := 7) dL_saves_7 ?_
    obtain ⟨h2, eh2, hf⟩ := ob hf
    refine sp_wL (pc := 8) dL_saves_8 eh2 (fun sz => ?_)
    refine sp_goto (pc := 9) (tgt := 18) dL_saves_9 (by decide) ?_
    refine sp_iconst (pc := 18) (v := 0) dL_saves_18 (by decide) ?_
    obtain rfl := Option.some.inj hf
    exact sp_ireturn (pc := 19) dL_saves_19 rfl rfl (hQ _)
  · rw [hsy1] at hf
    simp only [sw] at hf
    by_cases c3 : E = "java/lang/IndexOutOfBoundsException"
    · rw [if_pos c3] at hf
      subst c3
      refine Or.inr ⟨_, 12, rfl, hd_L_saves_IndexOutOfBoundsException, fun qx => ?_⟩
      refine sp_astore_n (pc := 12) (lv' := [(3, .ref qx), (0, .ref v0), (1, .int v1), (2, .ref v2)]) dL_saves_12 (by decide) rfl ?_
      refine sp_iconst (pc := 13) (v := 1) dL_saves_13 (by decide) ?_
      obtain rfl := Option.some.inj hf
      exact sp_ireturn (pc := 14) dL_saves_14 rfl rfl (hQ _)
    rw [if_neg c3] at hf
    by_cases c4 : E = "java/lang/IllegalStateException"
    · rw [if_pos c4] at hf
      subst c4
      refine Or.inr ⟨_, 15, rfl, hd_L_saves_IllegalStateException, fun qx => ?_⟩
      refine sp_astore_n (pc := 15) (lv' := [(3, .ref qx), (0, .ref v0), (1, .int v1), (2, .ref v2)]) dL_saves_15 (by decide) rfl ?_
      refine sp_iconst (pc := 16) (v := 2) dL_saves_16 (by decide) ?_
      obtain rfl := Option.some.inj hf
      exact sp_ireturn (pc := 17) dL_saves_17 rfl rfl (hQ _)
    rw [if_neg c4] at hf
    cases hf

theorem m_L_saves {l : Launch} {Q : PST} {h : HP} {v0 : Nat} {v1 : Int32} {v2 : Nat} {sz : Nat} {res : Int32 × HP} (hQ : ∀ sz', Q (.inl (some (.int res.1))) res.2 sz') (hlt : l.stackTraces = false) (hf : f_L_saves h v0 v1 v2 = some res) : MMW l M_L_saves [(0, 9, 12, 28), (0, 9, 15, 15)] [.ref v0, .int v1, .ref v2] h sz Q := by
  rw [f_L_saves] at hf
  exact MMW_of wokW_L_saves (by decide +kernel) (Nat.le_of_ble_eq_true rfl) (w_L_saves_0 hQ hlt rfl hf)

theorem dL_runScript_0 : decode (mB M_L_runScript) 0 = .ok (.aload 4, 2) := by decide +kernel
theorem dL_runScript_2 : decode (mB M_L_runScript) 2 = .ok (.iconst 0, 1) := by decide +kernel
theorem dL_runScript_3 : decode (mB M_L_runScript) 3 = .ok (.aload_n 0, 1) := by decide +kernel
theorem dL_runScript_4 : decode (mB M_L_runScript) 4 = .ok (.iload_n 1, 1) := by decide +kernel
theorem dL_runScript_5 : decode (mB M_L_runScript) 5 = .ok (.lload_n 2, 1) := by decide +kernel
theorem dL_runScript_6 : decode (mB M_L_runScript) 6 = .ok (.invokevirtual 76, 3) := by decide +kernel
theorem dL_runScript_9 : decode (mB M_L_runScript) 9 = .ok (.i2l, 1) := by decide +kernel
theorem dL_runScript_10 : decode (mB M_L_runScript) 10 = .ok (.lastore, 1) := by decide +kernel
theorem dL_runScript_11 : decode (mB M_L_runScript) 11 = .ok (.goto 7, 3) := by decide +kernel
theorem dL_runScript_14 : decode (mB M_L_runScript) 14 = .ok (.astore 5, 2) := by decide +kernel
theorem dL_runScript_16 : decode (mB M_L_runScript) 16 = .ok (.iconst 1, 1) := by decide +kernel
theorem dL_runScript_17 : decode (mB M_L_runScript) 17 = .ok (.ireturn, 1) := by decide +kernel
theorem dL_runScript_18 : decode (mB M_L_runScript) 18 = .ok (.iconst 0, 1) := by decide +kernel
theorem dL_runScript_19 : decode (mB M_L_runScript) 19 = .ok (.ireturn, 1) := by decide +kernel
def b_L_runScript_0 (v0 : Nat) (v1 : Int32) (v2 : Int64) (v4 : Nat) (h : HP) : Option (Int32 × HP) :=
  (f_X7_runScript h v0 v1 v2).bind fun y1 => sw y1.1 (fun r => (wL y1.2 v4 0 (Int32.toInt64 r)).bind fun h2 => some (0, h2)) (fun E => if E = "java/lang/IllegalArgumentException" then some (1, y1.2) else none)
def f_L_runScript (h : HP) (v0 : Nat) (v1 : Int32) (v2 : Int64) (v4 : Nat) : Option (Int32 × HP) := b_L_runScript_0 v0 v1 v2 v4 h
theorem w_L_runScript_0 {l : Launch} {X : SCR} {Q : PST} {res : Int32 × HP} {h : HP} (hQ : ∀ sz', Q (.inl (some (.int res.1))) res.2 sz') (hlt : l.stackTraces = false) (hX : X.2 = some [(0, 11, 14, 13)]) {v0 : Nat} {v1 : Int32} {v2 : Int64} {v4 : Nat} {sz : Nat} (hf : b_L_runScript_0 v0 v1 v2 v4 h  = some res) : SP l X M_L_runScript 0 [(0, .ref v0), (1, .int v1), (2, .long v2), (4, .ref v4)] [] h sz 1 6 Q := by
  rw [b_L_runScript_0] at hf
  refine sp_aload (pc := 0) dL_runScript_0 3 rfl ?_
  refine sp_iconst (pc := 2) (v := 0) dL_runScript_2 (by decide) ?_
  refine sp_aload_n (pc := 3) dL_runScript_3 0 rfl ?_
  refine sp_iload_n (pc := 4) dL_runScript_4 1 rfl ?_
  refine sp_lload_n (pc := 5) dL_runScript_5 2 rfl ?_
  obtain ⟨y1, ey1, hf⟩ := ob hf
  obtain ⟨fsy1, hoy1⟩ := o_X7_runScript ey1
  refine sp_callT (pc := 6) (hh9 := [(0, 11, 14, 13)]) (z := M_X7_runScript) (As := [.int v1, .long v2]) (b := v0) (bc2 := 0) (bs2 := 0) (m_X7_runScript (Q := _) (fun sz => ?_) hlt ey1) hX rfl dL_runScript_6 hoy1 rfl rfl bk_914 ck_L_runScript_76 (Nat.le_of_ble_eq_true rfl) rfl rfl rfl
  rcases hsy1 : y1.1 with r | E
  · rw [hsy1] at hf
    simp only [sw] at hf
    refine Or.inl ⟨r, rfl, ?_⟩
    refine sp_i2l (pc := 9) dL_runScript_9 ?_
    obtain ⟨h2, eh2, hf⟩ := ob hf
    refine sp_wL (pc := 10) dL_runScript_10 eh2 (fun sz => ?_)
    refine sp_goto (pc := 11) (tgt := 18) dL_runScript_11 (by decide) ?_
    refine sp_iconst (pc := 18) (v := 0) dL_runScript_18 (by decide) ?_
    obtain rfl := Option.some.inj hf
    exact sp_ireturn (pc := 19) dL_runScript_19 rfl rfl (hQ _)
  · rw [hsy1] at hf
    simp only [sw] at hf
    by_cases c3 : E = "java/lang/IllegalArgumentException"
    · rw [if_pos c3] at hf
      subst c3
      refine Or.inr ⟨_, 14, rfl, hd_L_runScript_IllegalArgumentException, fun qx => ?_⟩
      refine sp_astore (pc := 14) (lv' := [(5, .ref qx), (0, .ref v0), (1, .int v1), (2, .long v2), (4, .ref v4)]) dL_runScript_14 (by decide) rfl ?_
      refine sp_iconst (pc := 16) (v := 1) dL_runScript_16 (by decide) ?_
      obtain rfl := Option.some.inj hf
      exact sp_ireturn (pc := 17) dL_runScript_17 rfl rfl (hQ _)
    rw [if_neg c3] at hf
    cases hf

theorem m_L_runScript {l : Launch} {Q : PST} {h : HP} {v0 : Nat} {v1 : Int32} {v2 : Int64} {v4 : Nat} {sz : Nat} {res : Int32 × HP} (hQ : ∀ sz', Q (.inl (some (.int res.1))) res.2 sz') (hlt : l.stackTraces = false) (hf : f_L_runScript h v0 v1 v2 v4 = some res) : MMW l M_L_runScript [(0, 11, 14, 13)] [.ref v0, .int v1, .long v2, .ref v4] h sz Q := by
  rw [f_L_runScript] at hf
  exact MMW_of wokW_L_runScript (by decide +kernel) (Nat.le_of_ble_eq_true rfl) (w_L_runScript_0 hQ hlt rfl hf)

theorem dL_simulate_0 : decode (mB M_L_simulate) 0 = .ok (.aload 4, 2) := by decide +kernel
theorem dL_simulate_2 : decode (mB M_L_simulate) 2 = .ok (.iconst 0, 1) := by decide +kernel
theorem dL_simulate_3 : decode (mB M_L_simulate) 3 = .ok (.aload_n 0, 1) := by decide +kernel
theorem dL_simulate_4 : decode (mB M_L_simulate) 4 = .ok (.lload_n 1, 1) := by decide +kernel
theorem dL_simulate_5 : decode (mB M_L_simulate) 5 = .ok (.iload_n 3, 1) := by decide +kernel
theorem dL_simulate_6 : decode (mB M_L_simulate) 6 = .ok (.invokevirtual 80, 3) := by decide +kernel
theorem dL_simulate_9 : decode (mB M_L_simulate) 9 = .ok (.i2l, 1) := by decide +kernel
theorem dL_simulate_10 : decode (mB M_L_simulate) 10 = .ok (.lastore, 1) := by decide +kernel
theorem dL_simulate_11 : decode (mB M_L_simulate) 11 = .ok (.goto 7, 3) := by decide +kernel
theorem dL_simulate_14 : decode (mB M_L_simulate) 14 = .ok (.astore 5, 2) := by decide +kernel
theorem dL_simulate_16 : decode (mB M_L_simulate) 16 = .ok (.iconst 1, 1) := by decide +kernel
theorem dL_simulate_17 : decode (mB M_L_simulate) 17 = .ok (.ireturn, 1) := by decide +kernel
theorem dL_simulate_18 : decode (mB M_L_simulate) 18 = .ok (.iconst 0, 1) := by decide +kernel
theorem dL_simulate_19 : decode (mB M_L_simulate) 19 = .ok (.ireturn, 1) := by decide +kernel
def b_L_simulate_0 (v0 : Nat) (v1 : Int64) (v3 : Int32) (v4 : Nat) (h : HP) : Option (Int32 × HP) :=
  (f_X7_simulate h v0 v1 v3).bind fun y1 => sw y1.1 (fun r => (wL y1.2 v4 0 (Int32.toInt64 r)).bind fun h2 => some (0, h2)) (fun E => if E = "java/lang/IllegalArgumentException" then some (1, y1.2) else none)
def f_L_simulate (h : HP) (v0 : Nat) (v1 : Int64) (v3 : Int32) (v4 : Nat) : Option (Int32 × HP) := b_L_simulate_0 v0 v1 v3 v4 h
theorem w_L_simulate_0 {l : Launch} {X : SCR} {Q : PST} {res : Int32 × HP} {h : HP} (hQ : ∀ sz', Q (.inl (some (.int res.1))) res.2 sz') (hlt : l.stackTraces = false) (hX : X.2 = some [(0, 11, 14, 13)]) {v0 : Nat} {v1 : Int64} {v3 : Int32} {v4 : Nat} {sz : Nat} (hf : b_L_simulate_0 v0 v1 v3 v4 h  = some res) : SP l X M_L_simulate 0 [(0, .ref v0), (1, .long v1), (3, .int v3), (4, .ref v4)] [] h sz 1 6 Q := by
  rw [b_L_simulate_0] at hf
  refine sp_aload (pc := 0) dL_simulate_0 3 rfl ?_
  refine sp_iconst (pc := 2) (v := 0) dL_simulate_2 (by decide) ?_
  refine sp_aload_n (pc := 3) dL_simulate_3 0 rfl ?_
  refine sp_lload_n (pc := 4) dL_simulate_4 1 rfl ?_
  refine sp_iload_n (pc := 5) dL_simulate_5 2 rfl ?_
  obtain ⟨y1, ey1, hf⟩ := ob hf
  obtain ⟨fsy1, hoy1⟩ := o_X7_simulate ey1
  refine sp_callT (pc := 6) (hh9 := [(0, 11, 14, 13)]) (z := M_X7_simulate) (As := [.long v1, .int v3]) (b := v0) (bc2 := 0) (bs2 := 0) (m_X7_simulate (Q := _) (fun sz => ?_) hlt ey1) hX rfl dL_simulate_6 hoy1 rfl rfl bk_931 ck_L_simulate_80 (Nat.le_of_ble_eq_true rfl) rfl rfl rfl
  rcases hsy1 : y1.1 with r | E
  · rw [hsy1] at hf
    simp only [sw] at hf
    refine Or.inl ⟨r, rfl, ?_⟩
    refine sp_i2l (pc := 9) dL_simulate_9 ?_
    obtain ⟨h2, eh2, hf⟩ := ob hf
    refine sp_wL (pc := 10) dL_simulate_10 eh2 (fun sz => ?_)
    refine sp_goto (pc := 11) (tgt := 18) dL_simulate_11 (by decide) ?_
    refine sp_iconst (pc := 18) (v := 0) dL_simulate_18 (by decide) ?_
    obtain rfl := Option.some.inj hf
    exact sp_ireturn (pc := 19) dL_simulate_19 rfl rfl (hQ _)
  · rw [hsy1] at hf
    simp only [sw] at hf
    by_cases c3 : E = "java/lang/IllegalArgumentException"
    · rw [if_pos c3] at hf
      subst c3
      refine Or.inr ⟨_, 14, rfl, hd_L_simulate_IllegalArgumentException, fun qx => ?_⟩
      refine sp_astore (pc := 14) (lv' := [(5, .ref qx), (0, .ref v0), (1, .long v1), (3, .int v3), (4, .ref v4)]) dL_simulate_14 (by decide) rfl ?_
      refine sp_iconst (pc := 16) (v := 1) dL_simulate_16 (by decide) ?_
      obtain rfl := Option.some.inj hf
      exact sp_ireturn (pc := 17) dL_simulate_17 rfl rfl (hQ _)
    rw [if_neg c3] at hf
    cases hf

theorem m_L_simulate {l : Launch} {Q : PST} {h : HP} {v0 : Nat} {v1 : Int64} {v3 : Int32} {v4 : Nat} {sz : Nat} {res : Int32 × HP} (hQ : ∀ sz', Q (.inl (some (.int res.1))) res.2 sz') (hlt : l.stackTraces = false) (hf : f_L_simulate h v0 v1 v3 v4 = some res) : MMW l M_L_simulate [(0, 11, 14, 13)] [.ref v0, .long v1, .int v3, .ref v4] h sz Q := by
  rw [f_L_simulate] at hf
  exact MMW_of wokW_L_simulate (by decide +kernel) (Nat.le_of_ble_eq_true rfl) (w_L_simulate_0 hQ hlt rfl hf)

theorem dL_save_0 : decode (mB M_L_save) 0 = .ok (.aload_n 2, 1) := by decide +kernel
theorem dL_save_1 : decode (mB M_L_save) 1 = .ok (.iconst 0, 1) := by decide +kernel
theorem dL_save_2 : decode (mB M_L_save) 2 = .ok (.aload_n 0, 1) := by decide +kernel
theorem dL_save_3 : decode (mB M_L_save) 3 = .ok (.iload_n 1, 1) := by decide +kernel
theorem dL_save_4 : decode (mB M_L_save) 4 = .ok (.invokevirtual 84, 3) := by decide +kernel
theorem dL_save_7 : decode (mB M_L_save) 7 = .ok (.i2l, 1) := by decide +kernel
theorem dL_save_8 : decode (mB M_L_save) 8 = .ok (.lastore, 1) := by decide +kernel
theorem dL_save_9 : decode (mB M_L_save) 9 = .ok (.goto 6, 3) := by decide +kernel
theorem dL_save_12 : decode (mB M_L_save) 12 = .ok (.astore_n 3, 1) := by decide +kernel
theorem dL_save_13 : decode (mB M_L_save) 13 = .ok (.iconst 1, 1) := by decide +kernel
theorem dL_save_14 : decode (mB M_L_save) 14 = .ok (.ireturn, 1) := by decide +kernel
theorem dL_save_15 : decode (mB M_L_save) 15 = .ok (.iconst 0, 1) := by decide +kernel
theorem dL_save_16 : decode (mB M_L_save) 16 = .ok (.ireturn, 1) := by decide +kernel
def b_L_save_0 (v0 : Nat) (v1 : Int32) (v2 : Nat) (h : HP) : Option (Int32 × HP) :=
  (f_X7_save h v0 v1).bind fun y1 => sw y1.1 (fun r => (wL y1.2 v2 0 (Int32.toInt64 r)).bind fun h2 => some (0, h2)) (fun E => if E = "java/lang/IndexOutOfBoundsException" then some (1, y1.2) else none)
def f_L_save (h : HP) (v0 : Nat) (v1 : Int32) (v2 : Nat) : Option (Int32 × HP) := b_L_save_0 v0 v1 v2 h
theorem w_L_save_0 {l : Launch} {X : SCR} {Q : PST} {res : Int32 × HP} {h : HP} (hQ : ∀ sz', Q (.inl (some (.int res.1))) res.2 sz') (hlt : l.stackTraces = false) (hX : X.2 = some [(0, 9, 12, 28)]) {v0 : Nat} {v1 : Int32} {v2 : Nat} {sz : Nat} (hf : b_L_save_0 v0 v1 v2 h  = some res) : SP l X M_L_save 0 [(0, .ref v0), (1, .int v1), (2, .ref v2)] [] h sz 1 6 Q := by
  rw [b_L_save_0] at hf
  refine sp_aload_n (pc := 0) dL_save_0 2 rfl ?_
  refine sp_iconst (pc := 1) (v := 0) dL_save_1 (by decide) ?_
  refine sp_aload_n (pc := 2) dL_save_2 0 rfl ?_
  refine sp_iload_n (pc := 3) dL_save_3 1 rfl ?_
  obtain ⟨y1, ey1, hf⟩ := ob hf
  obtain ⟨fsy1, hoy1⟩ := o_X7_save ey1
  refine sp_callT (pc := 4) (hh9 := [(0, 9, 12, 28)]) (z := M_X7_save) (As := [.int v1]) (b := v0) (bc2 := 0) (bs2 := 0) (m_X7_save (Q := _) (fun sz => ?_) hlt ey1) hX rfl dL_save_4 hoy1 rfl rfl bk_946 ck_L_save_84 (Nat.le_of_ble_eq_true rfl) rfl rfl rfl
  rcases hsy1 : y1.1 with r | E
  · rw [hsy1] at hf
    simp only [sw] at hf
    refine Or.inl ⟨r, rfl, ?_⟩
    refine sp_i2l (pc := 7) dL_save_7 ?_
    obtain ⟨h2, eh2, hf⟩ := ob hf
    refine sp_wL (pc := 8) dL_save_8 eh2 (fun sz => ?_)
    refine sp_goto (pc := 9) (tgt := 15) dL_save_9 (by decide) ?_
    refine sp_iconst (pc := 15) (v := 0) dL_save_15 (by decide) ?_
    obtain rfl := Option.some.inj hf
    exact sp_ireturn (pc := 16) dL_save_16 rfl rfl (hQ _)
  · rw [hsy1] at hf
    simp only [sw] at hf
    by_cases c3 : E = "java/lang/IndexOutOfBoundsException"
    · rw [if_pos c3] at hf
      subst c3
      refine Or.inr ⟨_, 12, rfl, hd_L_save_IndexOutOfBoundsException, fun qx => ?_⟩
      refine sp_astore_n (pc := 12) (lv' := [(3, .ref qx), (0, .ref v0), (1, .int v1), (2, .ref v2)]) dL_save_12 (by decide) rfl ?_
      refine sp_iconst (pc := 13) (v := 1) dL_save_13 (by decide) ?_
      obtain rfl := Option.some.inj hf
      exact sp_ireturn (pc := 14) dL_save_14 rfl rfl (hQ _)
    rw [if_neg c3] at hf
    cases hf

theorem m_L_save {l : Launch} {Q : PST} {h : HP} {v0 : Nat} {v1 : Int32} {v2 : Nat} {sz : Nat} {res : Int32 × HP} (hQ : ∀ sz', Q (.inl (some (.int res.1))) res.2 sz') (hlt : l.stackTraces = false) (hf : f_L_save h v0 v1 v2 = some res) : MMW l M_L_save [(0, 9, 12, 28)] [.ref v0, .int v1, .ref v2] h sz Q := by
  rw [f_L_save] at hf
  exact MMW_of wokW_L_save (by decide +kernel) (Nat.le_of_ble_eq_true rfl) (w_L_save_0 hQ hlt rfl hf)

theorem dL_restore_0 : decode (mB M_L_restore) 0 = .ok (.aload_n 2, 1) := by decide +kernel
theorem dL_restore_1 : decode (mB M_L_restore) 1 = .ok (.iconst 0, 1) := by decide +kernel
theorem dL_restore_2 : decode (mB M_L_restore) 2 = .ok (.aload_n 0, 1) := by decide +kernel
theorem dL_restore_3 : decode (mB M_L_restore) 3 = .ok (.iload_n 1, 1) := by decide +kernel
theorem dL_restore_4 : decode (mB M_L_restore) 4 = .ok (.invokevirtual 87, 3) := by decide +kernel
theorem dL_restore_7 : decode (mB M_L_restore) 7 = .ok (.i2l, 1) := by decide +kernel
theorem dL_restore_8 : decode (mB M_L_restore) 8 = .ok (.lastore, 1) := by decide +kernel
theorem dL_restore_9 : decode (mB M_L_restore) 9 = .ok (.goto 9, 3) := by decide +kernel
theorem dL_restore_12 : decode (mB M_L_restore) 12 = .ok (.astore_n 3, 1) := by decide +kernel
theorem dL_restore_13 : decode (mB M_L_restore) 13 = .ok (.iconst 1, 1) := by decide +kernel
theorem dL_restore_14 : decode (mB M_L_restore) 14 = .ok (.ireturn, 1) := by decide +kernel
theorem dL_restore_15 : decode (mB M_L_restore) 15 = .ok (.astore_n 3, 1) := by decide +kernel
theorem dL_restore_16 : decode (mB M_L_restore) 16 = .ok (.iconst 2, 1) := by decide +kernel
theorem dL_restore_17 : decode (mB M_L_restore) 17 = .ok (.ireturn, 1) := by decide +kernel
theorem dL_restore_18 : decode (mB M_L_restore) 18 = .ok (.iconst 0, 1) := by decide +kernel
theorem dL_restore_19 : decode (mB M_L_restore) 19 = .ok (.ireturn, 1) := by decide +kernel
def b_L_restore_0 (v0 : Nat) (v1 : Int32) (v2 : Nat) (h : HP) : Option (Int32 × HP) :=
  (f_X7_restore h v0 v1).bind fun y1 => sw y1.1 (fun r => (wL y1.2 v2 0 (Int32.toInt64 r)).bind fun h2 => some (0, h2)) (fun E => if E = "java/lang/IndexOutOfBoundsException" then some (1, y1.2) else if E = "java/lang/IllegalStateException" then some (2, y1.2) else none)
def f_L_restore (h : HP) (v0 : Nat) (v1 : Int32) (v2 : Nat) : Option (Int32 × HP) := b_L_restore_0 v0 v1 v2 h
theorem w_L_restore_0 {l : Launch} {X : SCR} {Q : PST} {res : Int32 × HP} {h : HP} (hQ : ∀ sz', Q (.inl (some (.int res.1))) res.2 sz') (hlt : l.stackTraces = false) (hX : X.2 = some [(0, 9, 12, 28), (0, 9, 15, 15)]) {v0 : Nat} {v1 : Int32} {v2 : Nat} {sz : Nat} (hf : b_L_restore_0 v0 v1 v2 h  = some res) : SP l X M_L_restore 0 [(0, .ref v0), (1, .int v1), (2, .ref v2)] [] h sz 1 6 Q := by
  rw [b_L_restore_0] at hf
  refine sp_aload_n (pc := 0) dL_restore_0 2 rfl ?_
  refine sp_iconst (pc := 1) (v := 0) dL_restore_1 (by decide) ?_
  refine sp_aload_n (pc := 2) dL_restore_2 0 rfl ?_
  refine sp_iload_n (pc := 3) dL_restore_3 1 rfl ?_
  obtain ⟨y1, ey1, hf⟩ := ob hf
  obtain ⟨fsy1, hoy1⟩ := o_X7_restore ey1
  refine sp_callT (pc := 4) (hh9 := [(0, 9, 12, 28), (0, 9, 15, 15)]) (z := M_X7_restore) (As := [.int v1]) (b := v0) (bc2 := 0) (bs2 := 0) (m_X7_restore (Q := _) (fun sz => ?_) hlt ey1) hX rfl dL_restore_4 hoy1 rfl rfl bk_954 ck_L_restore_87 (Nat.le_of_ble_eq_true rfl) rfl rfl rfl
  rcases hsy1 : y1.1 with r | E
  · rw [hsy1] at hf
    simp only [sw] at hf
    refine Or.inl ⟨r, rfl, ?_⟩
    refine sp_i2l (pc := 7) dL_restore_7 ?_
    obtain ⟨h2, eh2, hf⟩ := ob hf
    refine sp_wL (pc := 8) dL_restore_8 eh2 (fun sz => ?_)
    refine sp_goto (pc := 9) (tgt := 18) dL_restore_9 (by decide) ?_
    refine sp_iconst (pc := 18) (v := 0) dL_restore_18 (by decide) ?_
    obtain rfl := Option.some.inj hf
    exact sp_ireturn (pc := 19) dL_restore_19 rfl rfl (hQ _)
  · rw [hsy1] at hf
    simp only [sw] at hf
    by_cases c3 : E = "java/lang/IndexOutOfBoundsException"
    · rw [if_pos c3] at hf
      subst c3
      refine Or.inr ⟨_, 12, rfl, hd_L_restore_IndexOutOfBoundsException, fun qx => ?_⟩
      refine sp_astore_n (pc := 12) (lv' := [(3, .ref qx), (0, .ref v0), (1, .int v1), (2, .ref v2)]) dL_restore_12 (by decide) rfl ?_
      refine sp_iconst (pc := 13) (v := 1) dL_restore_13 (by decide) ?_
      obtain rfl := Option.some.inj hf
      exact sp_ireturn (pc := 14) dL_restore_14 rfl rfl (hQ _)
    rw [if_neg c3] at hf
    by_cases c4 : E = "java/lang/IllegalStateException"
    · rw [if_pos c4] at hf
      subst c4
      refine Or.inr ⟨_, 15, rfl, hd_L_restore_IllegalStateException, fun qx => ?_⟩
      refine sp_astore_n (pc := 15) (lv' := [(3, .ref qx), (0, .ref v0), (1, .int v1), (2, .ref v2)]) dL_restore_15 (by decide) rfl ?_
      refine sp_iconst (pc := 16) (v := 2) dL_restore_16 (by decide) ?_
      obtain rfl := Option.some.inj hf
      exact sp_ireturn (pc := 17) dL_restore_17 rfl rfl (hQ _)
    rw [if_neg c4] at hf
    cases hf

theorem m_L_restore {l : Launch} {Q : PST} {h : HP} {v0 : Nat} {v1 : Int32} {v2 : Nat} {sz : Nat} {res : Int32 × HP} (hQ : ∀ sz', Q (.inl (some (.int res.1))) res.2 sz') (hlt : l.stackTraces = false) (hf : f_L_restore h v0 v1 v2 = some res) : MMW l M_L_restore [(0, 9, 12, 28), (0, 9, 15, 15)] [.ref v0, .int v1, .ref v2] h sz Q := by
  rw [f_L_restore] at hf
  exact MMW_of wokW_L_restore (by decide +kernel) (Nat.le_of_ble_eq_true rfl) (w_L_restore_0 hQ hlt rfl hf)

theorem dL_law_0 : decode (mB M_L_law) 0 = .ok (.new 8, 3) := by decide +kernel
theorem dL_law_3 : decode (mB M_L_law) 3 = .ok (.dup, 1) := by decide +kernel
theorem dL_law_4 : decode (mB M_L_law) 4 = .ok (.invokespecial 90, 3) := by decide +kernel
theorem dL_law_7 : decode (mB M_L_law) 7 = .ok (.astore_n 1, 1) := by decide +kernel
theorem dL_law_8 : decode (mB M_L_law) 8 = .ok (.new 91, 3) := by decide +kernel
theorem dL_law_11 : decode (mB M_L_law) 11 = .ok (.dup, 1) := by decide +kernel
theorem dL_law_12 : decode (mB M_L_law) 12 = .ok (.invokespecial 93, 3) := by decide +kernel
theorem dL_law_15 : decode (mB M_L_law) 15 = .ok (.astore_n 2, 1) := by decide +kernel
theorem dL_law_16 : decode (mB M_L_law) 16 = .ok (.iconst 1, 1) := by decide +kernel
theorem dL_law_17 : decode (mB M_L_law) 17 = .ok (.newarray .long, 2) := by decide +kernel
theorem dL_law_19 : decode (mB M_L_law) 19 = .ok (.astore_n 3, 1) := by decide +kernel
theorem dL_law_20 : decode (mB M_L_law) 20 = .ok (.iconst 0, 1) := by decide +kernel
theorem dL_law_21 : decode (mB M_L_law) 21 = .ok (.istore 4, 2) := by decide +kernel
theorem dL_law_23 : decode (mB M_L_law) 23 = .ok (.iload 4, 2) := by decide +kernel
theorem dL_law_25 : decode (mB M_L_law) 25 = .ok (.aload_n 0, 1) := by decide +kernel
theorem dL_law_26 : decode (mB M_L_law) 26 = .ok (.arraylength, 1) := by decide +kernel
theorem dL_law_27 : decode (mB M_L_law) 27 = .ok (.iconst 4, 1) := by decide +kernel
theorem dL_law_28 : decode (mB M_L_law) 28 = .ok (.isub, 1) := by decide +kernel
theorem dL_law_29 : decode (mB M_L_law) 29 = .ok (.if_icmp .gt 1642, 3) := by decide +kernel
theorem dL_law_32 : decode (mB M_L_law) 32 = .ok (.aload_n 0, 1) := by decide +kernel
theorem dL_law_33 : decode (mB M_L_law) 33 = .ok (.iload 4, 2) := by decide +kernel
theorem dL_law_35 : decode (mB M_L_law) 35 = .ok (.iaload, 1) := by decide +kernel
theorem dL_law_36 : decode (mB M_L_law) 36 = .ok (.bipush 31, 2) := by decide +kernel
theorem dL_law_38 : decode (mB M_L_law) 38 = .ok (.iand, 1) := by decide +kernel
theorem dL_law_39 : decode (mB M_L_law) 39 = .ok (.tableswitch 1626 0 27 #[125, 181, 194, 207, 251, 307, 375, 443, 523, 579, 647, 715, 759, 815, 859, 915, 959, 1015, 1083, 1163, 1176, 1232, 1288, 1301, 1314, 1414, 1514, 1570], 125) := by decide +kernel
theorem dL_law_164 : decode (mB M_L_law) 164 = .ok (.aload_n 1, 1) := by decide +kernel
theorem dL_law_165 : decode (mB M_L_law) 165 = .ok (.aload_n 0, 1) := by decide +kernel
theorem dL_law_166 : decode (mB M_L_law) 166 = .ok (.iload 4, 2) := by decide +kernel
theorem dL_law_168 : decode (mB M_L_law) 168 = .ok (.iconst 1, 1) := by decide +kernel
theorem dL_law_169 : decode (mB M_L_law) 169 = .ok (.iadd, 1) := by decide +kernel
theorem dL_law_170 : decode (mB M_L_law) 170 = .ok (.iaload, 1) := by decide +kernel
theorem dL_law_171 : decode (mB M_L_law) 171 = .ok (.aload_n 3, 1) := by decide +kernel
theorem dL_law_172 : decode (mB M_L_law) 172 = .ok (.invokestatic 94, 3) := by decide +kernel
theorem dL_law_175 : decode (mB M_L_law) 175 = .ok (.istore 5, 2) := by decide +kernel
theorem dL_law_177 : decode (mB M_L_law) 177 = .ok (.aload_n 2, 1) := by decide +kernel
theorem dL_law_178 : decode (mB M_L_law) 178 = .ok (.aload_n 0, 1) := by decide +kernel
theorem dL_law_179 : decode (mB M_L_law) 179 = .ok (.iload 4, 2) := by decide +kernel
theorem dL_law_181 : decode (mB M_L_law) 181 = .ok (.iconst 1, 1) := by decide +kernel
theorem dL_law_182 : decode (mB M_L_law) 182 = .ok (.iadd, 1) := by decide +kernel
theorem dL_law_183 : decode (mB M_L_law) 183 = .ok (.iaload, 1) := by decide +kernel
theorem dL_law_184 : decode (mB M_L_law) 184 = .ok (.invokevirtual 99, 3) := by decide +kernel
theorem dL_law_187 : decode (mB M_L_law) 187 = .ok (.istore 6, 2) := by decide +kernel
theorem dL_law_189 : decode (mB M_L_law) 189 = .ok (.aload_n 2, 1) := by decide +kernel
theorem dL_law_190 : decode (mB M_L_law) 190 = .ok (.invokevirtual 100, 3) := by decide +kernel
theorem dL_law_193 : decode (mB M_L_law) 193 = .ok (.iload 5, 2) := by decide +kernel
theorem dL_law_195 : decode (mB M_L_law) 195 = .ok (.if_icmp .eq 5, 3) := by decide +kernel
theorem dL_law_198 : decode (mB M_L_law) 198 = .ok (.iconst 0, 1) := by decide +kernel
theorem dL_law_199 : decode (mB M_L_law) 199 = .ok (.ireturn, 1) := by decide +kernel
theorem dL_law_200 : decode (mB M_L_law) 200 = .ok (.iload 5, 2) := by decide +kernel
theorem dL_law_202 : decode (mB M_L_law) 202 = .ok (.ifCond .ne 15, 3) := by decide +kernel
theorem dL_law_205 : decode (mB M_L_law) 205 = .ok (.aload_n 3, 1) := by decide +kernel
theorem dL_law_206 : decode (mB M_L_law) 206 = .ok (.iconst 0, 1) := by decide +kernel
theorem dL_law_207 : decode (mB M_L_law) 207 = .ok (.laload, 1) := by decide +kernel
theorem dL_law_208 : decode (mB M_L_law) 208 = .ok (.iload 6, 2) := by decide +kernel
theorem dL_law_210 : decode (mB M_L_law) 210 = .ok (.i2l, 1) := by decide +kernel
theorem dL_law_211 : decode (mB M_L_law) 211 = .ok (.lcmp, 1) := by decide +kernel
theorem dL_law_212 : decode (mB M_L_law) 212 = .ok (.ifCond .eq 5, 3) := by decide +kernel
theorem dL_law_215 : decode (mB M_L_law) 215 = .ok (.iconst 0, 1) := by decide +kernel
theorem dL_law_216 : decode (mB M_L_law) 216 = .ok (.ireturn, 1) := by decide +kernel
theorem dL_law_217 : decode (mB M_L_law) 217 = .ok (.goto 1448, 3) := by decide +kernel
theorem dL_law_220 : decode (mB M_L_law) 220 = .ok (.aload_n 1, 1) := by decide +kernel
theorem dL_law_221 : decode (mB M_L_law) 221 = .ok (.invokevirtual 103, 3) := by decide +kernel
theorem dL_law_224 : decode (mB M_L_law) 224 = .ok (.aload_n 2, 1) := by decide +kernel
theorem dL_law_225 : decode (mB M_L_law) 225 = .ok (.invokevirtual 106, 3) := by decide +kernel
theorem dL_law_228 : decode (mB M_L_law) 228 = .ok (.if_icmp .eq 1437, 3) := by decide +kernel
theorem dL_law_231 : decode (mB M_L_law) 231 = .ok (.iconst 0, 1) := by decide +kernel
theorem dL_law_232 : decode (mB M_L_law) 232 = .ok (.ireturn, 1) := by decide +kernel
theorem dL_law_233 : decode (mB M_L_law) 233 = .ok (.aload_n 1, 1) := by decide +kernel
theorem dL_law_234 : decode (mB M_L_law) 234 = .ok (.invokevirtual 107, 3) := by decide +kernel
theorem dL_law_237 : decode (mB M_L_law) 237 = .ok (.aload_n 2, 1) := by decide +kernel
theorem dL_law_238 : decode (mB M_L_law) 238 = .ok (.invokevirtual 110, 3) := by decide +kernel
theorem dL_law_241 : decode (mB M_L_law) 241 = .ok (.if_icmp .eq 1424, 3) := by decide +kernel
theorem dL_law_244 : decode (mB M_L_law) 244 = .ok (.iconst 0, 1) := by decide +kernel
theorem dL_law_245 : decode (mB M_L_law) 245 = .ok (.ireturn, 1) := by decide +kernel
theorem dL_law_246 : decode (mB M_L_law) 246 = .ok (.aload_n 1, 1) := by decide +kernel
theorem dL_law_247 : decode (mB M_L_law) 247 = .ok (.aload_n 3, 1) := by decide +kernel
theorem dL_law_248 : decode (mB M_L_law) 248 = .ok (.invokestatic 111, 3) := by decide +kernel
theorem dL_law_251 : decode (mB M_L_law) 251 = .ok (.istore 5, 2) := by decide +kernel
theorem dL_law_253 : decode (mB M_L_law) 253 = .ok (.aload_n 2, 1) := by decide +kernel
theorem dL_law_254 : decode (mB M_L_law) 254 = .ok (.invokevirtual 114, 3) := by decide +kernel
theorem dL_law_257 : decode (mB M_L_law) 257 = .ok (.istore 6, 2) := by decide +kernel
theorem dL_law_259 : decode (mB M_L_law) 259 = .ok (.aload_n 2, 1) := by decide +kernel
theorem dL_law_260 : decode (mB M_L_law) 260 = .ok (.invokevirtual 100, 3) := by decide +kernel
theorem dL_law_263 : decode (mB M_L_law) 263 = .ok (.iload 5, 2) := by decide +kernel
theorem dL_law_265 : decode (mB M_L_law) 265 = .ok (.if_icmp .eq 5, 3) := by decide +kernel
theorem dL_law_268 : decode (mB M_L_law) 268 = .ok (.iconst 0, 1) := by decide +kernel
theorem dL_law_269 : decode (mB M_L_law) 269 = .ok (.ireturn, 1) := by decide +kernel
theorem dL_law_270 : decode (mB M_L_law) 270 = .ok (.iload 5, 2) := by decide +kernel
theorem dL_law_272 : decode (mB M_L_law) 272 = .ok (.ifCond .ne 15, 3) := by decide +kernel
theorem dL_law_275 : decode (mB M_L_law) 275 = .ok (.aload_n 3, 1) := by decide +kernel
theorem dL_law_276 : decode (mB M_L_law) 276 = .ok (.iconst 0, 1) := by decide +kernel
theorem dL_law_277 : decode (mB M_L_law) 277 = .ok (.laload, 1) := by decide +kernel
theorem dL_law_278 : decode (mB M_L_law) 278 = .ok (.iload 6, 2) := by decide +kernel
theorem dL_law_280 : decode (mB M_L_law) 280 = .ok (.i2l, 1) := by decide +kernel
theorem dL_law_281 : decode (mB M_L_law) 281 = .ok (.lcmp, 1) := by decide +kernel
theorem dL_law_282 : decode (mB M_L_law) 282 = .ok (.ifCond .eq 5, 3) := by decide +kernel
theorem dL_law_285 : decode (mB M_L_law) 285 = .ok (.iconst 0, 1) := by decide +kernel
theorem dL_law_286 : decode (mB M_L_law) 286 = .ok (.ireturn, 1) := by decide +kernel
theorem dL_law_287 : decode (mB M_L_law) 287 = .ok (.goto 1378, 3) := by decide +kernel
theorem dL_law_290 : decode (mB M_L_law) 290 = .ok (.aload_n 1, 1) := by decide +kernel
theorem dL_law_291 : decode (mB M_L_law) 291 = .ok (.aload_n 0, 1) := by decide +kernel
theorem dL_law_292 : decode (mB M_L_law) 292 = .ok (.iload 4, 2) := by decide +kernel
theorem dL_law_294 : decode (mB M_L_law) 294 = .ok (.iconst 1, 1) := by decide +kernel
theorem dL_law_295 : decode (mB M_L_law) 295 = .ok (.iadd, 1) := by decide +kernel
theorem dL_law_296 : decode (mB M_L_law) 296 = .ok (.iaload, 1) := by decide +kernel
theorem dL_law_297 : decode (mB M_L_law) 297 = .ok (.aload_n 3, 1) := by decide +kernel
theorem dL_law_298 : decode (mB M_L_law) 298 = .ok (.invokestatic 115, 3) := by decide +kernel
theorem dL_law_301 : decode (mB M_L_law) 301 = .ok (.istore 5, 2) := by decide +kernel
theorem dL_law_303 : decode (mB M_L_law) 303 = .ok (.aload_n 2, 1) := by decide +kernel
theorem dL_law_304 : decode (mB M_L_law) 304 = .ok (.aload_n 0, 1) := by decide +kernel
theorem dL_law_305 : decode (mB M_L_law) 305 = .ok (.iload 4, 2) := by decide +kernel
theorem dL_law_307 : decode (mB M_L_law) 307 = .ok (.iconst 1, 1) := by decide +kernel
theorem dL_law_308 : decode (mB M_L_law) 308 = .ok (.iadd, 1) := by decide +kernel
theorem dL_law_309 : decode (mB M_L_law) 309 = .ok (.iaload, 1) := by decide +kernel
theorem dL_law_310 : decode (mB M_L_law) 310 = .ok (.invokevirtual 117, 3) := by decide +kernel
theorem dL_law_313 : decode (mB M_L_law) 313 = .ok (.istore 6, 2) := by decide +kernel
theorem dL_law_315 : decode (mB M_L_law) 315 = .ok (.aload_n 2, 1) := by decide +kernel
theorem dL_law_316 : decode (mB M_L_law) 316 = .ok (.invokevirtual 100, 3) := by decide +kernel
theorem dL_law_319 : decode (mB M_L_law) 319 = .ok (.iload 5, 2) := by decide +kernel
theorem dL_law_321 : decode (mB M_L_law) 321 = .ok (.if_icmp .eq 5, 3) := by decide +kernel
theorem dL_law_324 : decode (mB M_L_law) 324 = .ok (.iconst 0, 1) := by decide +kernel
theorem dL_law_325 : decode (mB M_L_law) 325 = .ok (.ireturn, 1) := by decide +kernel
theorem dL_law_326 : decode (mB M_L_law) 326 = .ok (.iload 5, 2) := by decide +kernel
theorem dL_law_328 : decode (mB M_L_law) 328 = .ok (.ifCond .ne 15, 3) := by decide +kernel
theorem dL_law_331 : decode (mB M_L_law) 331 = .ok (.aload_n 3, 1) := by decide +kernel
theorem dL_law_332 : decode (mB M_L_law) 332 = .ok (.iconst 0, 1) := by decide +kernel
theorem dL_law_333 : decode (mB M_L_law) 333 = .ok (.laload, 1) := by decide +kernel
theorem dL_law_334 : decode (mB M_L_law) 334 = .ok (.iload 6, 2) := by decide +kernel
theorem dL_law_336 : decode (mB M_L_law) 336 = .ok (.i2l, 1) := by decide +kernel
theorem dL_law_337 : decode (mB M_L_law) 337 = .ok (.lcmp, 1) := by decide +kernel
theorem dL_law_338 : decode (mB M_L_law) 338 = .ok (.ifCond .eq 5, 3) := by decide +kernel
theorem dL_law_341 : decode (mB M_L_law) 341 = .ok (.iconst 0, 1) := by decide +kernel
theorem dL_law_342 : decode (mB M_L_law) 342 = .ok (.ireturn, 1) := by decide +kernel
theorem dL_law_343 : decode (mB M_L_law) 343 = .ok (.goto 1322, 3) := by decide +kernel
theorem dL_law_346 : decode (mB M_L_law) 346 = .ok (.aload_n 1, 1) := by decide +kernel
theorem dL_law_347 : decode (mB M_L_law) 347 = .ok (.aload_n 0, 1) := by decide +kernel
theorem dL_law_348 : decode (mB M_L_law) 348 = .ok (.iload 4, 2) := by decide +kernel
theorem dL_law_350 : decode (mB M_L_law) 350 = .ok (.iconst 1, 1) := by decide +kernel
theorem dL_law_351 : decode (mB M_L_law) 351 = .ok (.iadd, 1) := by decide +kernel
theorem dL_law_352 : decode (mB M_L_law) 352 = .ok (.iaload, 1) := by decide +kernel
theorem dL_law_353 : decode (mB M_L_law) 353 = .ok (.aload_n 0, 1) := by decide +kernel
theorem dL_law_354 : decode (mB M_L_law) 354 = .ok (.iload 4, 2) := by decide +kernel
theorem dL_law_356 : decode (mB M_L_law) 356 = .ok (.iconst 2, 1) := by decide +kernel
theorem dL_law_357 : decode (mB M_L_law) 357 = .ok (.iadd, 1) := by decide +kernel
theorem dL_law_358 : decode (mB M_L_law) 358 = .ok (.iaload, 1) := by decide +kernel
theorem dL_law_359 : decode (mB M_L_law) 359 = .ok (.aload_n 3, 1) := by decide +kernel
theorem dL_law_360 : decode (mB M_L_law) 360 = .ok (.invokestatic 118, 3) := by decide +kernel
theorem dL_law_363 : decode (mB M_L_law) 363 = .ok (.istore 5, 2) := by decide +kernel
theorem dL_law_365 : decode (mB M_L_law) 365 = .ok (.aload_n 2, 1) := by decide +kernel
theorem dL_law_366 : decode (mB M_L_law) 366 = .ok (.aload_n 0, 1) := by decide +kernel
theorem dL_law_367 : decode (mB M_L_law) 367 = .ok (.iload 4, 2) := by decide +kernel
theorem dL_law_369 : decode (mB M_L_law) 369 = .ok (.iconst 1, 1) := by decide +kernel
theorem dL_law_370 : decode (mB M_L_law) 370 = .ok (.iadd, 1) := by decide +kernel
theorem dL_law_371 : decode (mB M_L_law) 371 = .ok (.iaload, 1) := by decide +kernel
theorem dL_law_372 : decode (mB M_L_law) 372 = .ok (.aload_n 0, 1) := by decide +kernel
theorem dL_law_373 : decode (mB M_L_law) 373 = .ok (.iload 4, 2) := by decide +kernel
theorem dL_law_375 : decode (mB M_L_law) 375 = .ok (.iconst 2, 1) := by decide +kernel
theorem dL_law_376 : decode (mB M_L_law) 376 = .ok (.iadd, 1) := by decide +kernel
theorem dL_law_377 : decode (mB M_L_law) 377 = .ok (.iaload, 1) := by decide +kernel
theorem dL_law_378 : decode (mB M_L_law) 378 = .ok (.invokevirtual 121, 3) := by decide +kernel
theorem dL_law_381 : decode (mB M_L_law) 381 = .ok (.istore 6, 2) := by decide +kernel
theorem dL_law_383 : decode (mB M_L_law) 383 = .ok (.aload_n 2, 1) := by decide +kernel
theorem dL_law_384 : decode (mB M_L_law) 384 = .ok (.invokevirtual 100, 3) := by decide +kernel
theorem dL_law_387 : decode (mB M_L_law) 387 = .ok (.iload 5, 2) := by decide +kernel
theorem dL_law_389 : decode (mB M_L_law) 389 = .ok (.if_icmp .eq 5, 3) := by decide +kernel
theorem dL_law_392 : decode (mB M_L_law) 392 = .ok (.iconst 0, 1) := by decide +kernel
theorem dL_law_393 : decode (mB M_L_law) 393 = .ok (.ireturn, 1) := by decide +kernel
theorem dL_law_394 : decode (mB M_L_law) 394 = .ok (.iload 5, 2) := by decide +kernel
theorem dL_law_396 : decode (mB M_L_law) 396 = .ok (.ifCond .ne 15, 3) := by decide +kernel
theorem dL_law_399 : decode (mB M_L_law) 399 = .ok (.aload_n 3, 1) := by decide +kernel
theorem dL_law_400 : decode (mB M_L_law) 400 = .ok (.iconst 0, 1) := by decide +kernel
theorem dL_law_401 : decode (mB M_L_law) 401 = .ok (.laload, 1) := by decide +kernel
theorem dL_law_402 : decode (mB M_L_law) 402 = .ok (.iload 6, 2) := by decide +kernel
theorem dL_law_404 : decode (mB M_L_law) 404 = .ok (.i2l, 1) := by decide +kernel
theorem dL_law_405 : decode (mB M_L_law) 405 = .ok (.lcmp, 1) := by decide +kernel
theorem dL_law_406 : decode (mB M_L_law) 406 = .ok (.ifCond .eq 5, 3) := by decide +kernel
theorem dL_law_409 : decode (mB M_L_law) 409 = .ok (.iconst 0, 1) := by decide +kernel
theorem dL_law_410 : decode (mB M_L_law) 410 = .ok (.ireturn, 1) := by decide +kernel
theorem dL_law_411 : decode (mB M_L_law) 411 = .ok (.goto 1254, 3) := by decide +kernel
theorem dL_law_414 : decode (mB M_L_law) 414 = .ok (.aload_n 1, 1) := by decide +kernel
theorem dL_law_415 : decode (mB M_L_law) 415 = .ok (.aload_n 0, 1) := by decide +kernel
theorem dL_law_416 : decode (mB M_L_law) 416 = .ok (.iload 4, 2) := by decide +kernel
theorem dL_law_418 : decode (mB M_L_law) 418 = .ok (.iconst 1, 1) := by decide +kernel
theorem dL_law_419 : decode (mB M_L_law) 419 = .ok (.iadd, 1) := by decide +kernel
theorem dL_law_420 : decode (mB M_L_law) 420 = .ok (.iaload, 1) := by decide +kernel
theorem dL_law_421 : decode (mB M_L_law) 421 = .ok (.aload_n 0, 1) := by decide +kernel
theorem dL_law_422 : decode (mB M_L_law) 422 = .ok (.iload 4, 2) := by decide +kernel
theorem dL_law_424 : decode (mB M_L_law) 424 = .ok (.iconst 2, 1) := by decide +kernel
theorem dL_law_425 : decode (mB M_L_law) 425 = .ok (.iadd, 1) := by decide +kernel
theorem dL_law_426 : decode (mB M_L_law) 426 = .ok (.iaload, 1) := by decide +kernel
theorem dL_law_427 : decode (mB M_L_law) 427 = .ok (.aload_n 3, 1) := by decide +kernel
theorem dL_law_428 : decode (mB M_L_law) 428 = .ok (.invokestatic 122, 3) := by decide +kernel
theorem dL_law_431 : decode (mB M_L_law) 431 = .ok (.istore 5, 2) := by decide +kernel
theorem dL_law_433 : decode (mB M_L_law) 433 = .ok (.aload_n 2, 1) := by decide +kernel
theorem dL_law_434 : decode (mB M_L_law) 434 = .ok (.aload_n 0, 1) := by decide +kernel
theorem dL_law_435 : decode (mB M_L_law) 435 = .ok (.iload 4, 2) := by decide +kernel
theorem dL_law_437 : decode (mB M_L_law) 437 = .ok (.iconst 1, 1) := by decide +kernel
theorem dL_law_438 : decode (mB M_L_law) 438 = .ok (.iadd, 1) := by decide +kernel
theorem dL_law_439 : decode (mB M_L_law) 439 = .ok (.iaload, 1) := by decide +kernel
theorem dL_law_440 : decode (mB M_L_law) 440 = .ok (.aload_n 0, 1) := by decide +kernel
theorem dL_law_441 : decode (mB M_L_law) 441 = .ok (.iload 4, 2) := by decide +kernel
theorem dL_law_443 : decode (mB M_L_law) 443 = .ok (.iconst 2, 1) := by decide +kernel
theorem dL_law_444 : decode (mB M_L_law) 444 = .ok (.iadd, 1) := by decide +kernel
theorem dL_law_445 : decode (mB M_L_law) 445 = .ok (.iaload, 1) := by decide +kernel
theorem dL_law_446 : decode (mB M_L_law) 446 = .ok (.invokevirtual 124, 3) := by decide +kernel
theorem dL_law_449 : decode (mB M_L_law) 449 = .ok (.istore 6, 2) := by decide +kernel
theorem dL_law_451 : decode (mB M_L_law) 451 = .ok (.aload_n 2, 1) := by decide +kernel
theorem dL_law_452 : decode (mB M_L_law) 452 = .ok (.invokevirtual 100, 3) := by decide +kernel
theorem dL_law_455 : decode (mB M_L_law) 455 = .ok (.iload 5, 2) := by decide +kernel
theorem dL_law_457 : decode (mB M_L_law) 457 = .ok (.if_icmp .eq 5, 3) := by decide +kernel
theorem dL_law_460 : decode (mB M_L_law) 460 = .ok (.iconst 0, 1) := by decide +kernel
theorem dL_law_461 : decode (mB M_L_law) 461 = .ok (.ireturn, 1) := by decide +kernel
theorem dL_law_462 : decode (mB M_L_law) 462 = .ok (.iload 5, 2) := by decide +kernel
theorem dL_law_464 : decode (mB M_L_law) 464 = .ok (.ifCond .ne 15, 3) := by decide +kernel
theorem dL_law_467 : decode (mB M_L_law) 467 = .ok (.aload_n 3, 1) := by decide +kernel
theorem dL_law_468 : decode (mB M_L_law) 468 = .ok (.iconst 0, 1) := by decide +kernel
theorem dL_law_469 : decode (mB M_L_law) 469 = .ok (.laload, 1) := by decide +kernel
theorem dL_law_470 : decode (mB M_L_law) 470 = .ok (.iload 6, 2) := by decide +kernel
theorem dL_law_472 : decode (mB M_L_law) 472 = .ok (.i2l, 1) := by decide +kernel
theorem dL_law_473 : decode (mB M_L_law) 473 = .ok (.lcmp, 1) := by decide +kernel
theorem dL_law_474 : decode (mB M_L_law) 474 = .ok (.ifCond .eq 5, 3) := by decide +kernel
theorem dL_law_477 : decode (mB M_L_law) 477 = .ok (.iconst 0, 1) := by decide +kernel
theorem dL_law_478 : decode (mB M_L_law) 478 = .ok (.ireturn, 1) := by decide +kernel
theorem dL_law_479 : decode (mB M_L_law) 479 = .ok (.goto 1186, 3) := by decide +kernel
theorem dL_law_482 : decode (mB M_L_law) 482 = .ok (.aload_n 1, 1) := by decide +kernel
theorem dL_law_483 : decode (mB M_L_law) 483 = .ok (.aload_n 0, 1) := by decide +kernel
theorem dL_law_484 : decode (mB M_L_law) 484 = .ok (.iload 4, 2) := by decide +kernel
theorem dL_law_486 : decode (mB M_L_law) 486 = .ok (.iconst 1, 1) := by decide +kernel
theorem dL_law_487 : decode (mB M_L_law) 487 = .ok (.iadd, 1) := by decide +kernel
theorem dL_law_488 : decode (mB M_L_law) 488 = .ok (.iaload, 1) := by decide +kernel
theorem dL_law_489 : decode (mB M_L_law) 489 = .ok (.aload_n 0, 1) := by decide +kernel
theorem dL_law_490 : decode (mB M_L_law) 490 = .ok (.iload 4, 2) := by decide +kernel
theorem dL_law_492 : decode (mB M_L_law) 492 = .ok (.iconst 2, 1) := by decide +kernel
theorem dL_law_493 : decode (mB M_L_law) 493 = .ok (.iadd, 1) := by decide +kernel
theorem dL_law_494 : decode (mB M_L_law) 494 = .ok (.iaload, 1) := by decide +kernel
theorem dL_law_495 : decode (mB M_L_law) 495 = .ok (.aload_n 0, 1) := by decide +kernel
theorem dL_law_496 : decode (mB M_L_law) 496 = .ok (.iload 4, 2) := by decide +kernel
theorem dL_law_498 : decode (mB M_L_law) 498 = .ok (.iconst 3, 1) := by decide +kernel
theorem dL_law_499 : decode (mB M_L_law) 499 = .ok (.iadd, 1) := by decide +kernel
theorem dL_law_500 : decode (mB M_L_law) 500 = .ok (.iaload, 1) := by decide +kernel
theorem dL_law_501 : decode (mB M_L_law) 501 = .ok (.aload_n 3, 1) := by decide +kernel
theorem dL_law_502 : decode (mB M_L_law) 502 = .ok (.invokestatic 125, 3) := by decide +kernel
theorem dL_law_505 : decode (mB M_L_law) 505 = .ok (.istore 5, 2) := by decide +kernel
theorem dL_law_507 : decode (mB M_L_law) 507 = .ok (.aload_n 2, 1) := by decide +kernel
theorem dL_law_508 : decode (mB M_L_law) 508 = .ok (.aload_n 0, 1) := by decide +kernel
theorem dL_law_509 : decode (mB M_L_law) 509 = .ok (.iload 4, 2) := by decide +kernel
theorem dL_law_511 : decode (mB M_L_law) 511 = .ok (.iconst 1, 1) := by decide +kernel
theorem dL_law_512 : decode (mB M_L_law) 512 = .ok (.iadd, 1) := by decide +kernel
theorem dL_law_513 : decode (mB M_L_law) 513 = .ok (.iaload, 1) := by decide +kernel
theorem dL_law_514 : decode (mB M_L_law) 514 = .ok (.aload_n 0, 1) := by decide +kernel
theorem dL_law_515 : decode (mB M_L_law) 515 = .ok (.iload 4, 2) := by decide +kernel
theorem dL_law_517 : decode (mB M_L_law) 517 = .ok (.iconst 2, 1) := by decide +kernel
theorem dL_law_518 : decode (mB M_L_law) 518 = .ok (.iadd, 1) := by decide +kernel
theorem dL_law_519 : decode (mB M_L_law) 519 = .ok (.iaload, 1) := by decide +kernel
theorem dL_law_520 : decode (mB M_L_law) 520 = .ok (.aload_n 0, 1) := by decide +kernel
theorem dL_law_521 : decode (mB M_L_law) 521 = .ok (.iload 4, 2) := by decide +kernel
theorem dL_law_523 : decode (mB M_L_law) 523 = .ok (.iconst 3, 1) := by decide +kernel
theorem dL_law_524 : decode (mB M_L_law) 524 = .ok (.iadd, 1) := by decide +kernel
theorem dL_law_525 : decode (mB M_L_law) 525 = .ok (.iaload, 1) := by decide +kernel
theorem dL_law_526 : decode (mB M_L_law) 526 = .ok (.invokevirtual 128, 3) := by decide +kernel
theorem dL_law_529 : decode (mB M_L_law) 529 = .ok (.istore 6, 2) := by decide +kernel
theorem dL_law_531 : decode (mB M_L_law) 531 = .ok (.aload_n 2, 1) := by decide +kernel
theorem dL_law_532 : decode (mB M_L_law) 532 = .ok (.invokevirtual 100, 3) := by decide +kernel
theorem dL_law_535 : decode (mB M_L_law) 535 = .ok (.iload 5, 2) := by decide +kernel
theorem dL_law_537 : decode (mB M_L_law) 537 = .ok (.if_icmp .eq 5, 3) := by decide +kernel
theorem dL_law_540 : decode (mB M_L_law) 540 = .ok (.iconst 0, 1) := by decide +kernel
theorem dL_law_541 : decode (mB M_L_law) 541 = .ok (.ireturn, 1) := by decide +kernel
theorem dL_law_542 : decode (mB M_L_law) 542 = .ok (.iload 5, 2) := by decide +kernel
theorem dL_law_544 : decode (mB M_L_law) 544 = .ok (.ifCond .ne 15, 3) := by decide +kernel
theorem dL_law_547 : decode (mB M_L_law) 547 = .ok (.aload_n 3, 1) := by decide +kernel
theorem dL_law_548 : decode (mB M_L_law) 548 = .ok (.iconst 0, 1) := by decide +kernel
theorem dL_law_549 : decode (mB M_L_law) 549 = .ok (.laload, 1) := by decide +kernel
theorem dL_law_550 : decode (mB M_L_law) 550 = .ok (.iload 6, 2) := by decide +kernel
theorem dL_law_552 : decode (mB M_L_law) 552 = .ok (.i2l, 1) := by decide +kernel
theorem dL_law_553 : decode (mB M_L_law) 553 = .ok (.lcmp, 1) := by decide +kernel
theorem dL_law_554 : decode (mB M_L_law) 554 = .ok (.ifCond .eq 5, 3) := by decide +kernel
theorem dL_law_557 : decode (mB M_L_law) 557 = .ok (.iconst 0, 1) := by decide +kernel
theorem dL_law_558 : decode (mB M_L_law) 558 = .ok (.ireturn, 1) := by decide +kernel
theorem dL_law_559 : decode (mB M_L_law) 559 = .ok (.goto 1106, 3) := by decide +kernel
theorem dL_law_562 : decode (mB M_L_law) 562 = .ok (.aload_n 1, 1) := by decide +kernel
theorem dL_law_563 : decode (mB M_L_law) 563 = .ok (.aload_n 0, 1) := by decide +kernel
theorem dL_law_564 : decode (mB M_L_law) 564 = .ok (.iload 4, 2) := by decide +kernel
theorem dL_law_566 : decode (mB M_L_law) 566 = .ok (.iconst 1, 1) := by decide +kernel
theorem dL_law_567 : decode (mB M_L_law) 567 = .ok (.iadd, 1) := by decide +kernel
theorem dL_law_568 : decode (mB M_L_law) 568 = .ok (.iaload, 1) := by decide +kernel
theorem dL_law_569 : decode (mB M_L_law) 569 = .ok (.aload_n 3, 1) := by decide +kernel
theorem dL_law_570 : decode (mB M_L_law) 570 = .ok (.invokestatic 129, 3) := by decide +kernel
theorem dL_law_573 : decode (mB M_L_law) 573 = .ok (.istore 5, 2) := by decide +kernel
theorem dL_law_575 : decode (mB M_L_law) 575 = .ok (.aload_n 2, 1) := by decide +kernel
theorem dL_law_576 : decode (mB M_L_law) 576 = .ok (.aload_n 0, 1) := by decide +kernel
theorem dL_law_577 : decode (mB M_L_law) 577 = .ok (.iload 4, 2) := by decide +kernel
theorem dL_law_579 : decode (mB M_L_law) 579 = .ok (.iconst 1, 1) := by decide +kernel
theorem dL_law_580 : decode (mB M_L_law) 580 = .ok (.iadd, 1) := by decide +kernel
theorem dL_law_581 : decode (mB M_L_law) 581 = .ok (.iaload, 1) := by decide +kernel
theorem dL_law_582 : decode (mB M_L_law) 582 = .ok (.invokevirtual 131, 3) := by decide +kernel
theorem dL_law_585 : decode (mB M_L_law) 585 = .ok (.istore 6, 2) := by decide +kernel
theorem dL_law_587 : decode (mB M_L_law) 587 = .ok (.aload_n 2, 1) := by decide +kernel
theorem dL_law_588 : decode (mB M_L_law) 588 = .ok (.invokevirtual 100, 3) := by decide +kernel
theorem dL_law_591 : decode (mB M_L_law) 591 = .ok (.iload 5, 2) := by decide +kernel
theorem dL_law_593 : decode (mB M_L_law) 593 = .ok (.if_icmp .eq 5, 3) := by decide +kernel
theorem dL_law_596 : decode (mB M_L_law) 596 = .ok (.iconst 0, 1) := by decide +kernel
theorem dL_law_597 : decode (mB M_L_law) 597 = .ok (.ireturn, 1) := by decide +kernel
theorem dL_law_598 : decode (mB M_L_law) 598 = .ok (.iload 5, 2) := by decide +kernel
theorem dL_law_600 : decode (mB M_L_law) 600 = .ok (.ifCond .ne 15, 3) := by decide +kernel
theorem dL_law_603 : decode (mB M_L_law) 603 = .ok (.aload_n 3, 1) := by decide +kernel
theorem dL_law_604 : decode (mB M_L_law) 604 = .ok (.iconst 0, 1) := by decide +kernel
theorem dL_law_605 : decode (mB M_L_law) 605 = .ok (.laload, 1) := by decide +kernel
theorem dL_law_606 : decode (mB M_L_law) 606 = .ok (.iload 6, 2) := by decide +kernel
theorem dL_law_608 : decode (mB M_L_law) 608 = .ok (.i2l, 1) := by decide +kernel
theorem dL_law_609 : decode (mB M_L_law) 609 = .ok (.lcmp, 1) := by decide +kernel
theorem dL_law_610 : decode (mB M_L_law) 610 = .ok (.ifCond .eq 5, 3) := by decide +kernel
theorem dL_law_613 : decode (mB M_L_law) 613 = .ok (.iconst 0, 1) := by decide +kernel
theorem dL_law_614 : decode (mB M_L_law) 614 = .ok (.ireturn, 1) := by decide +kernel
theorem dL_law_615 : decode (mB M_L_law) 615 = .ok (.goto 1050, 3) := by decide +kernel
theorem dL_law_618 : decode (mB M_L_law) 618 = .ok (.aload_n 1, 1) := by decide +kernel
theorem dL_law_619 : decode (mB M_L_law) 619 = .ok (.aload_n 0, 1) := by decide +kernel
theorem dL_law_620 : decode (mB M_L_law) 620 = .ok (.iload 4, 2) := by decide +kernel
theorem dL_law_622 : decode (mB M_L_law) 622 = .ok (.iconst 1, 1) := by decide +kernel
theorem dL_law_623 : decode (mB M_L_law) 623 = .ok (.iadd, 1) := by decide +kernel
theorem dL_law_624 : decode (mB M_L_law) 624 = .ok (.iaload, 1) := by decide +kernel
theorem dL_law_625 : decode (mB M_L_law) 625 = .ok (.aload_n 0, 1) := by decide +kernel
theorem dL_law_626 : decode (mB M_L_law) 626 = .ok (.iload 4, 2) := by decide +kernel
theorem dL_law_628 : decode (mB M_L_law) 628 = .ok (.iconst 2, 1) := by decide +kernel
theorem dL_law_629 : decode (mB M_L_law) 629 = .ok (.iadd, 1) := by decide +kernel
theorem dL_law_630 : decode (mB M_L_law) 630 = .ok (.iaload, 1) := by decide +kernel
theorem dL_law_631 : decode (mB M_L_law) 631 = .ok (.aload_n 3, 1) := by decide +kernel
theorem dL_law_632 : decode (mB M_L_law) 632 = .ok (.invokestatic 132, 3) := by decide +kernel
theorem dL_law_635 : decode (mB M_L_law) 635 = .ok (.istore 5, 2) := by decide +kernel
theorem dL_law_637 : decode (mB M_L_law) 637 = .ok (.aload_n 2, 1) := by decide +kernel
theorem dL_law_638 : decode (mB M_L_law) 638 = .ok (.aload_n 0, 1) := by decide +kernel
theorem dL_law_639 : decode (mB M_L_law) 639 = .ok (.iload 4, 2) := by decide +kernel
theorem dL_law_641 : decode (mB M_L_law) 641 = .ok (.iconst 1, 1) := by decide +kernel
theorem dL_law_642 : decode (mB M_L_law) 642 = .ok (.iadd, 1) := by decide +kernel
theorem dL_law_643 : decode (mB M_L_law) 643 = .ok (.iaload, 1) := by decide +kernel
theorem dL_law_644 : decode (mB M_L_law) 644 = .ok (.aload_n 0, 1) := by decide +kernel
theorem dL_law_645 : decode (mB M_L_law) 645 = .ok (.iload 4, 2) := by decide +kernel
theorem dL_law_647 : decode (mB M_L_law) 647 = .ok (.iconst 2, 1) := by decide +kernel
theorem dL_law_648 : decode (mB M_L_law) 648 = .ok (.iadd, 1) := by decide +kernel
theorem dL_law_649 : decode (mB M_L_law) 649 = .ok (.iaload, 1) := by decide +kernel
theorem dL_law_650 : decode (mB M_L_law) 650 = .ok (.invokevirtual 134, 3) := by decide +kernel
theorem dL_law_653 : decode (mB M_L_law) 653 = .ok (.istore 6, 2) := by decide +kernel
theorem dL_law_655 : decode (mB M_L_law) 655 = .ok (.aload_n 2, 1) := by decide +kernel
theorem dL_law_656 : decode (mB M_L_law) 656 = .ok (.invokevirtual 100, 3) := by decide +kernel
theorem dL_law_659 : decode (mB M_L_law) 659 = .ok (.iload 5, 2) := by decide +kernel
theorem dL_law_661 : decode (mB M_L_law) 661 = .ok (.if_icmp .eq 5, 3) := by decide +kernel
theorem dL_law_664 : decode (mB M_L_law) 664 = .ok (.iconst 0, 1) := by decide +kernel
theorem dL_law_665 : decode (mB M_L_law) 665 = .ok (.ireturn, 1) := by decide +kernel
theorem dL_law_666 : decode (mB M_L_law) 666 = .ok (.iload 5, 2) := by decide +kernel
theorem dL_law_668 : decode (mB M_L_law) 668 = .ok (.ifCond .ne 15, 3) := by decide +kernel
theorem dL_law_671 : decode (mB M_L_law) 671 = .ok (.aload_n 3, 1) := by decide +kernel
theorem dL_law_672 : decode (mB M_L_law) 672 = .ok (.iconst 0, 1) := by decide +kernel
theorem dL_law_673 : decode (mB M_L_law) 673 = .ok (.laload, 1) := by decide +kernel
theorem dL_law_674 : decode (mB M_L_law) 674 = .ok (.iload 6, 2) := by decide +kernel
theorem dL_law_676 : decode (mB M_L_law) 676 = .ok (.i2l, 1) := by decide +kernel
theorem dL_law_677 : decode (mB M_L_law) 677 = .ok (.lcmp, 1) := by decide +kernel
theorem dL_law_678 : decode (mB M_L_law) 678 = .ok (.ifCond .eq 5, 3) := by decide +kernel
theorem dL_law_681 : decode (mB M_L_law) 681 = .ok (.iconst 0, 1) := by decide +kernel
theorem dL_law_682 : decode (mB M_L_law) 682 = .ok (.ireturn, 1) := by decide +kernel
theorem dL_law_683 : decode (mB M_L_law) 683 = .ok (.goto 982, 3) := by decide +kernel
theorem dL_law_686 : decode (mB M_L_law) 686 = .ok (.aload_n 1, 1) := by decide +kernel
theorem dL_law_687 : decode (mB M_L_law) 687 = .ok (.aload_n 0, 1) := by decide +kernel
theorem dL_law_688 : decode (mB M_L_law) 688 = .ok (.iload 4, 2) := by decide +kernel
theorem dL_law_690 : decode (mB M_L_law) 690 = .ok (.iconst 1, 1) := by decide +kernel
theorem dL_law_691 : decode (mB M_L_law) 691 = .ok (.iadd, 1) := by decide +kernel
theorem dL_law_692 : decode (mB M_L_law) 692 = .ok (.iaload, 1) := by decide +kernel
theorem dL_law_693 : decode (mB M_L_law) 693 = .ok (.aload_n 0, 1) := by decide +kernel
theorem dL_law_694 : decode (mB M_L_law) 694 = .ok (.iload 4, 2) := by decide +kernel
theorem dL_law_696 : decode (mB M_L_law) 696 = .ok (.iconst 2, 1) := by decide +kernel
theorem dL_law_697 : decode (mB M_L_law) 697 = .ok (.iadd, 1) := by decide +kernel
theorem dL_law_698 : decode (mB M_L_law) 698 = .ok (.iaload, 1) := by decide +kernel
theorem dL_law_699 : decode (mB M_L_law) 699 = .ok (.aload_n 3, 1) := by decide +kernel
theorem dL_law_700 : decode (mB M_L_law) 700 = .ok (.invokestatic 135, 3) := by decide +kernel
theorem dL_law_703 : decode (mB M_L_law) 703 = .ok (.istore 5, 2) := by decide +kernel
theorem dL_law_705 : decode (mB M_L_law) 705 = .ok (.aload_n 2, 1) := by decide +kernel
theorem dL_law_706 : decode (mB M_L_law) 706 = .ok (.aload_n 0, 1) := by decide +kernel
theorem dL_law_707 : decode (mB M_L_law) 707 = .ok (.iload 4, 2) := by decide +kernel
theorem dL_law_709 : decode (mB M_L_law) 709 = .ok (.iconst 1, 1) := by decide +kernel
theorem dL_law_710 : decode (mB M_L_law) 710 = .ok (.iadd, 1) := by decide +kernel
theorem dL_law_711 : decode (mB M_L_law) 711 = .ok (.iaload, 1) := by decide +kernel
theorem dL_law_712 : decode (mB M_L_law) 712 = .ok (.aload_n 0, 1) := by decide +kernel
theorem dL_law_713 : decode (mB M_L_law) 713 = .ok (.iload 4, 2) := by decide +kernel
theorem dL_law_715 : decode (mB M_L_law) 715 = .ok (.iconst 2, 1) := by decide +kernel
theorem dL_law_716 : decode (mB M_L_law) 716 = .ok (.iadd, 1) := by decide +kernel
theorem dL_law_717 : decode (mB M_L_law) 717 = .ok (.iaload, 1) := by decide +kernel
theorem dL_law_718 : decode (mB M_L_law) 718 = .ok (.invokevirtual 137, 3) := by decide +kernel
theorem dL_law_721 : decode (mB M_L_law) 721 = .ok (.istore 6, 2) := by decide +kernel
theorem dL_law_723 : decode (mB M_L_law) 723 = .ok (.aload_n 2, 1) := by decide +kernel
theorem dL_law_724 : decode (mB M_L_law) 724 = .ok (.invokevirtual 100, 3) := by decide +kernel
theorem dL_law_727 : decode (mB M_L_law) 727 = .ok (.iload 5, 2) := by decide +kernel
theorem dL_law_729 : decode (mB M_L_law) 729 = .ok (.if_icmp .eq 5, 3) := by decide +kernel
theorem dL_law_732 : decode (mB M_L_law) 732 = .ok (.iconst 0, 1) := by decide +kernel
theorem dL_law_733 : decode (mB M_L_law) 733 = .ok (.ireturn, 1) := by decide +kernel
theorem dL_law_734 : decode (mB M_L_law) 734 = .ok (.iload 5, 2) := by decide +kernel
theorem dL_law_736 : decode (mB M_L_law) 736 = .ok (.ifCond .ne 15, 3) := by decide +kernel
theorem dL_law_739 : decode (mB M_L_law) 739 = .ok (.aload_n 3, 1) := by decide +kernel
theorem dL_law_740 : decode (mB M_L_law) 740 = .ok (.iconst 0, 1) := by decide +kernel
theorem dL_law_741 : decode (mB M_L_law) 741 = .ok (.laload, 1) := by decide +kernel
theorem dL_law_742 : decode (mB M_L_law) 742 = .ok (.iload 6, 2) := by decide +kernel
theorem dL_law_744 : decode (mB M_L_law) 744 = .ok (.i2l, 1) := by decide +kernel
theorem dL_law_745 : decode (mB M_L_law) 745 = .ok (.lcmp, 1) := by decide +kernel
theorem dL_law_746 : decode (mB M_L_law) 746 = .ok (.ifCond .eq 5, 3) := by decide +kernel
theorem dL_law_749 : decode (mB M_L_law) 749 = .ok (.iconst 0, 1) := by decide +kernel
theorem dL_law_750 : decode (mB M_L_law) 750 = .ok (.ireturn, 1) := by decide +kernel
theorem dL_law_751 : decode (mB M_L_law) 751 = .ok (.goto 914, 3) := by decide +kernel
theorem dL_law_754 : decode (mB M_L_law) 754 = .ok (.aload_n 1, 1) := by decide +kernel
theorem dL_law_755 : decode (mB M_L_law) 755 = .ok (.aload_n 3, 1) := by decide +kernel
theorem dL_law_756 : decode (mB M_L_law) 756 = .ok (.invokestatic 138, 3) := by decide +kernel
theorem dL_law_759 : decode (mB M_L_law) 759 = .ok (.istore 5, 2) := by decide +kernel
theorem dL_law_761 : decode (mB M_L_law) 761 = .ok (.aload_n 2, 1) := by decide +kernel
theorem dL_law_762 : decode (mB M_L_law) 762 = .ok (.invokevirtual 140, 3) := by decide +kernel
theorem dL_law_765 : decode (mB M_L_law) 765 = .ok (.istore 6, 2) := by decide +kernel
theorem dL_law_767 : decode (mB M_L_law) 767 = .ok (.aload_n 2, 1) := by decide +kernel
theorem dL_law_768 : decode (mB M_L_law) 768 = .ok (.invokevirtual 100, 3) := by decide +kernel
theorem dL_law_771 : decode (mB M_L_law) 771 = .ok (.iload 5, 2) := by decide +kernel
theorem dL_law_773 : decode (mB M_L_law) 773 = .ok (.if_icmp .eq 5, 3) := by decide +kernel
theorem dL_law_776 : decode (mB M_L_law) 776 = .ok (.iconst 0, 1) := by decide +kernel
theorem dL_law_777 : decode (mB M_L_law) 777 = .ok (.ireturn, 1) := by decide +kernel
theorem dL_law_778 : decode (mB M_L_law) 778 = .ok (.iload 5, 2) := by decide +kernel
theorem dL_law_780 : decode (mB M_L_law) 780 = .ok (.ifCond .ne 15, 3) := by decide +kernel
theorem dL_law_783 : decode (mB M_L_law) 783 = .ok (.aload_n 3, 1) := by decide +kernel
theorem dL_law_784 : decode (mB M_L_law) 784 = .ok (.iconst 0, 1) := by decide +kernel
theorem dL_law_785 : decode (mB M_L_law) 785 = .ok (.laload, 1) := by decide +kernel
theorem dL_law_786 : decode (mB M_L_law) 786 = .ok (.iload 6, 2) := by decide +kernel
theorem dL_law_788 : decode (mB M_L_law) 788 = .ok (.i2l, 1) := by decide +kernel
theorem dL_law_789 : decode (mB M_L_law) 789 = .ok (.lcmp, 1) := by decide +kernel
theorem dL_law_790 : decode (mB M_L_law) 790 = .ok (.ifCond .eq 5, 3) := by decide +kernel
theorem dL_law_793 : decode (mB M_L_law) 793 = .ok (.iconst 0, 1) := by decide +kernel
theorem dL_law_794 : decode (mB M_L_law) 794 = .ok (.ireturn, 1) := by decide +kernel
theorem dL_law_795 : decode (mB M_L_law) 795 = .ok (.goto 870, 3) := by decide +kernel
theorem dL_law_798 : decode (mB M_L_law) 798 = .ok (.aload_n 1, 1) := by decide +kernel
theorem dL_law_799 : decode (mB M_L_law) 799 = .ok (.aload_n 0, 1) := by decide +kernel
theorem dL_law_800 : decode (mB M_L_law) 800 = .ok (.iload 4, 2) := by decide +kernel
theorem dL_law_802 : decode (mB M_L_law) 802 = .ok (.iconst 1, 1) := by decide +kernel
theorem dL_law_803 : decode (mB M_L_law) 803 = .ok (.iadd, 1) := by decide +kernel
theorem dL_law_804 : decode (mB M_L_law) 804 = .ok (.iaload, 1) := by decide +kernel
theorem dL_law_805 : decode (mB M_L_law) 805 = .ok (.aload_n 3, 1) := by decide +kernel
theorem dL_law_806 : decode (mB M_L_law) 806 = .ok (.invokestatic 141, 3) := by decide +kernel
theorem dL_law_809 : decode (mB M_L_law) 809 = .ok (.istore 5, 2) := by decide +kernel
theorem dL_law_811 : decode (mB M_L_law) 811 = .ok (.aload_n 2, 1) := by decide +kernel
theorem dL_law_812 : decode (mB M_L_law) 812 = .ok (.aload_n 0, 1) := by decide +kernel
theorem dL_law_813 : decode (mB M_L_law) 813 = .ok (.iload 4, 2) := by decide +kernel
theorem dL_law_815 : decode (mB M_L_law) 815 = .ok (.iconst 1, 1) := by decide +kernel
theorem dL_law_816 : decode (mB M_L_law) 816 = .ok (.iadd, 1) := by decide +kernel
theorem dL_law_817 : decode (mB M_L_law) 817 = .ok (.iaload, 1) := by decide +kernel
theorem dL_law_818 : decode (mB M_L_law) 818 = .ok (.invokevirtual 143, 3) := by decide +kernel
theorem dL_law_821 : decode (mB M_L_law) 821 = .ok (.istore 6, 2) := by decide +kernel
theorem dL_law_823 : decode (mB M_L_law) 823 = .ok (.aload_n 2, 1) := by decide +kernel
theorem dL_law_824 : decode (mB M_L_law) 824 = .ok (.invokevirtual 100, 3) := by decide +kernel
theorem dL_law_827 : decode (mB M_L_law) 827 = .ok (.iload 5, 2) := by decide +kernel
theorem dL_law_829 : decode (mB M_L_law) 829 = .ok (.if_icmp .eq 5, 3) := by decide +kernel
theorem dL_law_832 : decode (mB M_L_law) 832 = .ok (.iconst 0, 1) := by decide +kernel
theorem dL_law_833 : decode (mB M_L_law) 833 = .ok (.ireturn, 1) := by decide +kernel
theorem dL_law_834 : decode (mB M_L_law) 834 = .ok (.iload 5, 2) := by decide +kernel
theorem dL_law_836 : decode (mB M_L_law) 836 = .ok (.ifCond .ne 15, 3) := by decide +kernel
theorem dL_law_839 : decode (mB M_L_law) 839 = .ok (.aload_n 3, 1) := by decide +kernel
theorem dL_law_840 : decode (mB M_L_law) 840 = .ok (.iconst 0, 1) := by decide +kernel
theorem dL_law_841 : decode (mB M_L_law) 841 = .ok (.laload, 1) := by decide +kernel
theorem dL_law_842 : decode (mB M_L_law) 842 = .ok (.iload 6, 2) := by decide +kernel
theorem dL_law_844 : decode (mB M_L_law) 844 = .ok (.i2l, 1) := by decide +kernel
theorem dL_law_845 : decode (mB M_L_law) 845 = .ok (.lcmp, 1) := by decide +kernel
theorem dL_law_846 : decode (mB M_L_law) 846 = .ok (.ifCond .eq 5, 3) := by decide +kernel
theorem dL_law_849 : decode (mB M_L_law) 849 = .ok (.iconst 0, 1) := by decide +kernel
theorem dL_law_850 : decode (mB M_L_law) 850 = .ok (.ireturn, 1) := by decide +kernel
theorem dL_law_851 : decode (mB M_L_law) 851 = .ok (.goto 814, 3) := by decide +kernel
theorem dL_law_854 : decode (mB M_L_law) 854 = .ok (.aload_n 1, 1) := by decide +kernel
theorem dL_law_855 : decode (mB M_L_law) 855 = .ok (.aload_n 3, 1) := by decide +kernel
theorem dL_law_856 : decode (mB M_L_law) 856 = .ok (.invokestatic 144, 3) := by decide +kernel
theorem dL_law_859 : decode (mB M_L_law) 859 = .ok (.istore 5, 2) := by decide +kernel
theorem dL_law_861 : decode (mB M_L_law) 861 = .ok (.aload_n 2, 1) := by decide +kernel
theorem dL_law_862 : decode (mB M_L_law) 862 = .ok (.invokevirtual 146, 3) := by decide +kernel
theorem dL_law_865 : decode (mB M_L_law) 865 = .ok (.istore 6, 2) := by decide +kernel
theorem dL_law_867 : decode (mB M_L_law) 867 = .ok (.aload_n 2, 1) := by decide +kernel
theorem dL_law_868 : decode (mB M_L_law) 868 = .ok (.invokevirtual 100, 3) := by decide +kernel
theorem dL_law_871 : decode (mB M_L_law) 871 = .ok (.iload 5, 2) := by decide +kernel
theorem dL_law_873 : decode (mB M_L_law) 873 = .ok (.if_icmp .eq 5, 3) := by decide +kernel
theorem dL_law_876 : decode (mB M_L_law) 876 = .ok (.iconst 0, 1) := by decide +kernel
theorem dL_law_877 : decode (mB M_L_law) 877 = .ok (.ireturn, 1) := by decide +kernel
theorem dL_law_878 : decode (mB M_L_law) 878 = .ok (.iload 5, 2) := by decide +kernel
theorem dL_law_880 : decode (mB M_L_law) 880 = .ok (.ifCond .ne 15, 3) := by decide +kernel
theorem dL_law_883 : decode (mB M_L_law) 883 = .ok (.aload_n 3, 1) := by decide +kernel
theorem dL_law_884 : decode (mB M_L_law) 884 = .ok (.iconst 0, 1) := by decide +kernel
theorem dL_law_885 : decode (mB M_L_law) 885 = .ok (.laload, 1) := by decide +kernel
theorem dL_law_886 : decode (mB M_L_law) 886 = .ok (.iload 6, 2) := by decide +kernel
theorem dL_law_888 : decode (mB M_L_law) 888 = .ok (.i2l, 1) := by decide +kernel
theorem dL_law_889 : decode (mB M_L_law) 889 = .ok (.lcmp, 1) := by decide +kernel
theorem dL_law_890 : decode (mB M_L_law) 890 = .ok (.ifCond .eq 5, 3) := by decide +kernel
theorem dL_law_893 : decode (mB M_L_law) 893 = .ok (.iconst 0, 1) := by decide +kernel
theorem dL_law_894 : decode (mB M_L_law) 894 = .ok (.ireturn, 1) := by decide +kernel
theorem dL_law_895 : decode (mB M_L_law) 895 = .ok (.goto 770, 3) := by decide +kernel
theorem dL_law_898 : decode (mB M_L_law) 898 = .ok (.aload_n 1, 1) := by decide +kernel
theorem dL_law_899 : decode (mB M_L_law) 899 = .ok (.aload_n 0, 1) := by decide +kernel
theorem dL_law_900 : decode (mB M_L_law) 900 = .ok (.iload 4, 2) := by decide +kernel
theorem dL_law_902 : decode (mB M_L_law) 902 = .ok (.iconst 1, 1) := by decide +kernel
theorem dL_law_903 : decode (mB M_L_law) 903 = .ok (.iadd, 1) := by decide +kernel
theorem dL_law_904 : decode (mB M_L_law) 904 = .ok (.iaload, 1) := by decide +kernel
theorem dL_law_905 : decode (mB M_L_law) 905 = .ok (.aload_n 3, 1) := by decide +kernel
theorem dL_law_906 : decode (mB M_L_law) 906 = .ok (.invokestatic 147, 3) := by decide +kernel
theorem dL_law_909 : decode (mB M_L_law) 909 = .ok (.istore 5, 2) := by decide +kernel
theorem dL_law_911 : decode (mB M_L_law) 911 = .ok (.aload_n 2, 1) := by decide +kernel
theorem dL_law_912 : decode (mB M_L_law) 912 = .ok (.aload_n 0, 1) := by decide +kernel
theorem dL_law_913 : decode (mB M_L_law) 913 = .ok (.iload 4, 2) := by decide +kernel
theorem dL_law_915 : decode (mB M_L_law) 915 = .ok (.iconst 1, 1) := by decide +kernel
theorem dL_law_916 : decode (mB M_L_law) 916 = .ok (.iadd, 1) := by decide +kernel
theorem dL_law_917 : decode (mB M_L_law) 917 = .ok (.iaload, 1) := by decide +kernel
theorem dL_law_918 : decode (mB M_L_law) 918 = .ok (.invokevirtual 149, 3) := by decide +kernel
theorem dL_law_921 : decode (mB M_L_law) 921 = .ok (.istore 6, 2) := by decide +kernel
theorem dL_law_923 : decode (mB M_L_law) 923 = .ok (.aload_n 2, 1) := by decide +kernel
theorem dL_law_924 : decode (mB M_L_law) 924 = .ok (.invokevirtual 100, 3) := by decide +kernel
theorem dL_law_927 : decode (mB M_L_law) 927 = .ok (.iload 5, 2) := by decide +kernel
theorem dL_law_929 : decode (mB M_L_law) 929 = .ok (.if_icmp .eq 5, 3) := by decide +kernel
theorem dL_law_932 : decode (mB M_L_law) 932 = .ok (.iconst 0, 1) := by decide +kernel
theorem dL_law_933 : decode (mB M_L_law) 933 = .ok (.ireturn, 1) := by decide +kernel
theorem dL_law_934 : decode (mB M_L_law) 934 = .ok (.iload 5, 2) := by decide +kernel
theorem dL_law_936 : decode (mB M_L_law) 936 = .ok (.ifCond .ne 15, 3) := by decide +kernel
theorem dL_law_939 : decode (mB M_L_law) 939 = .ok (.aload_n 3, 1) := by decide +kernel
theorem dL_law_940 : decode (mB M_L_law) 940 = .ok (.iconst 0, 1) := by decide +kernel
theorem dL_law_941 : decode (mB M_L_law) 941 = .ok (.laload, 1) := by decide +kernel
theorem dL_law_942 : decode (mB M_L_law) 942 = .ok (.iload 6, 2) := by decide +kernel
theorem dL_law_944 : decode (mB M_L_law) 944 = .ok (.i2l, 1) := by decide +kernel
theorem dL_law_945 : decode (mB M_L_law) 945 = .ok (.lcmp, 1) := by decide +kernel
theorem dL_law_946 : decode (mB M_L_law) 946 = .ok (.ifCond .eq 5, 3) := by decide +kernel
theorem dL_law_949 : decode (mB M_L_law) 949 = .ok (.iconst 0, 1) := by decide +kernel
theorem dL_law_950 : decode (mB M_L_law) 950 = .ok (.ireturn, 1) := by decide +kernel
theorem dL_law_951 : decode (mB M_L_law) 951 = .ok (.goto 714, 3) := by decide +kernel
theorem dL_law_954 : decode (mB M_L_law) 954 = .ok (.aload_n 1, 1) := by decide +kernel
theorem dL_law_955 : decode (mB M_L_law) 955 = .ok (.aload_n 3, 1) := by decide +kernel
theorem dL_law_956 : decode (mB M_L_law) 956 = .ok (.invokestatic 150, 3) := by decide +kernel
theorem dL_law_959 : decode (mB M_L_law) 959 = .ok (.istore 5, 2) := by decide +kernel
theorem dL_law_961 : decode (mB M_L_law) 961 = .ok (.aload_n 2, 1) := by decide +kernel
theorem dL_law_962 : decode (mB M_L_law) 962 = .ok (.invokevirtual 152, 3) := by decide +kernel
theorem dL_law_965 : decode (mB M_L_law) 965 = .ok (.istore 6, 2) := by decide +kernel
theorem dL_law_967 : decode (mB M_L_law) 967 = .ok (.aload_n 2, 1) := by decide +kernel
theorem dL_law_968 : decode (mB M_L_law) 968 = .ok (.invokevirtual 100, 3) := by decide +kernel
theorem dL_law_971 : decode (mB M_L_law) 971 = .ok (.iload 5, 2) := by decide +kernel
theorem dL_law_973 : decode (mB M_L_law) 973 = .ok (.if_icmp .eq 5, 3) := by decide +kernel
theorem dL_law_976 : decode (mB M_L_law) 976 = .ok (.iconst 0, 1) := by decide +kernel
theorem dL_law_977 : decode (mB M_L_law) 977 = .ok (.ireturn, 1) := by decide +kernel
theorem dL_law_978 : decode (mB M_L_law) 978 = .ok (.iload 5, 2) := by decide +kernel
theorem dL_law_980 : decode (mB M_L_law) 980 = .ok (.ifCond .ne 15, 3) := by decide +kernel
theorem dL_law_983 : decode (mB M_L_law) 983 = .ok (.aload_n 3, 1) := by decide +kernel
theorem dL_law_984 : decode (mB M_L_law) 984 = .ok (.iconst 0, 1) := by decide +kernel
theorem dL_law_985 : decode (mB M_L_law) 985 = .ok (.laload, 1) := by decide +kernel
theorem dL_law_986 : decode (mB M_L_law) 986 = .ok (.iload 6, 2) := by decide +kernel
theorem dL_law_988 : decode (mB M_L_law) 988 = .ok (.i2l, 1) := by decide +kernel
theorem dL_law_989 : decode (mB M_L_law) 989 = .ok (.lcmp, 1) := by decide +kernel
theorem dL_law_990 : decode (mB M_L_law) 990 = .ok (.ifCond .eq 5, 3) := by decide +kernel
theorem dL_law_993 : decode (mB M_L_law) 993 = .ok (.iconst 0, 1) := by decide +kernel
theorem dL_law_994 : decode (mB M_L_law) 994 = .ok (.ireturn, 1) := by decide +kernel
theorem dL_law_995 : decode (mB M_L_law) 995 = .ok (.goto 670, 3) := by decide +kernel
theorem dL_law_998 : decode (mB M_L_law) 998 = .ok (.aload_n 1, 1) := by decide +kernel
theorem dL_law_999 : decode (mB M_L_law) 999 = .ok (.aload_n 0, 1) := by decide +kernel
theorem dL_law_1000 : decode (mB M_L_law) 1000 = .ok (.iload 4, 2) := by decide +kernel
theorem dL_law_1002 : decode (mB M_L_law) 1002 = .ok (.iconst 1, 1) := by decide +kernel
theorem dL_law_1003 : decode (mB M_L_law) 1003 = .ok (.iadd, 1) := by decide +kernel
theorem dL_law_1004 : decode (mB M_L_law) 1004 = .ok (.iaload, 1) := by decide +kernel
theorem dL_law_1005 : decode (mB M_L_law) 1005 = .ok (.aload_n 3, 1) := by decide +kernel
theorem dL_law_1006 : decode (mB M_L_law) 1006 = .ok (.invokestatic 153, 3) := by decide +kernel
theorem dL_law_1009 : decode (mB M_L_law) 1009 = .ok (.istore 5, 2) := by decide +kernel
theorem dL_law_1011 : decode (mB M_L_law) 1011 = .ok (.aload_n 2, 1) := by decide +kernel
theorem dL_law_1012 : decode (mB M_L_law) 1012 = .ok (.aload_n 0, 1) := by decide +kernel
theorem dL_law_1013 : decode (mB M_L_law) 1013 = .ok (.iload 4, 2) := by decide +kernel
theorem dL_law_1015 : decode (mB M_L_law) 1015 = .ok (.iconst 1, 1) := by decide +kernel
theorem dL_law_1016 : decode (mB M_L_law) 1016 = .ok (.iadd, 1) := by decide +kernel
theorem dL_law_1017 : decode (mB M_L_law) 1017 = .ok (.iaload, 1) := by decide +kernel
theorem dL_law_1018 : decode (mB M_L_law) 1018 = .ok (.invokevirtual 155, 3) := by decide +kernel
theorem dL_law_1021 : decode (mB M_L_law) 1021 = .ok (.istore 6, 2) := by decide +kernel
theorem dL_law_1023 : decode (mB M_L_law) 1023 = .ok (.aload_n 2, 1) := by decide +kernel
theorem dL_law_1024 : decode (mB M_L_law) 1024 = .ok (.invokevirtual 100, 3) := by decide +kernel
theorem dL_law_1027 : decode (mB M_L_law) 1027 = .ok (.iload 5, 2) := by decide +kernel
theorem dL_law_1029 : decode (mB M_L_law) 1029 = .ok (.if_icmp .eq 5, 3) := by decide +kernel
theorem dL_law_1032 : decode (mB M_L_law) 1032 = .ok (.iconst 0, 1) := by decide +kernel
theorem dL_law_1033 : decode (mB M_L_law) 1033 = .ok (.ireturn, 1) := by decide +kernel
theorem dL_law_1034 : decode (mB M_L_law) 1034 = .ok (.iload 5, 2) := by decide +kernel
theorem dL_law_1036 : decode (mB M_L_law) 1036 = .ok (.ifCond .ne 15, 3) := by decide +kernel
theorem dL_law_1039 : decode (mB M_L_law) 1039 = .ok (.aload_n 3, 1) := by decide +kernel
theorem dL_law_1040 : decode (mB M_L_law) 1040 = .ok (.iconst 0, 1) := by decide +kernel
theorem dL_law_1041 : decode (mB M_L_law) 1041 = .ok (.laload, 1) := by decide +kernel
theorem dL_law_1042 : decode (mB M_L_law) 1042 = .ok (.iload 6, 2) := by decide +kernel
theorem dL_law_1044 : decode (mB M_L_law) 1044 = .ok (.i2l, 1) := by decide +kernel
theorem dL_law_1045 : decode (mB M_L_law) 1045 = .ok (.lcmp, 1) := by decide +kernel
theorem dL_law_1046 : decode (mB M_L_law) 1046 = .ok (.ifCond .eq 5, 3) := by decide +kernel
theorem dL_law_1049 : decode (mB M_L_law) 1049 = .ok (.iconst 0, 1) := by decide +kernel
theorem dL_law_1050 : decode (mB M_L_law) 1050 = .ok (.ireturn, 1) := by decide +kernel
theorem dL_law_1051 : decode (mB M_L_law) 1051 = .ok (.goto 614, 3) := by decide +kernel
theorem dL_law_1054 : decode (mB M_L_law) 1054 = .ok (.aload_n 1, 1) := by decide +kernel
theorem dL_law_1055 : decode (mB M_L_law) 1055 = .ok (.aload_n 0, 1) := by decide +kernel
theorem dL_law_1056 : decode (mB M_L_law) 1056 = .ok (.iload 4, 2) := by decide +kernel
theorem dL_law_1058 : decode (mB M_L_law) 1058 = .ok (.iconst 1, 1) := by decide +kernel
theorem dL_law_1059 : decode (mB M_L_law) 1059 = .ok (.iadd, 1) := by decide +kernel
theorem dL_law_1060 : decode (mB M_L_law) 1060 = .ok (.iaload, 1) := by decide +kernel
theorem dL_law_1061 : decode (mB M_L_law) 1061 = .ok (.aload_n 0, 1) := by decide +kernel
theorem dL_law_1062 : decode (mB M_L_law) 1062 = .ok (.iload 4, 2) := by decide +kernel
theorem dL_law_1064 : decode (mB M_L_law) 1064 = .ok (.iconst 2, 1) := by decide +kernel
theorem dL_law_1065 : decode (mB M_L_law) 1065 = .ok (.iadd, 1) := by decide +kernel
theorem dL_law_1066 : decode (mB M_L_law) 1066 = .ok (.iaload, 1) := by decide +kernel
theorem dL_law_1067 : decode (mB M_L_law) 1067 = .ok (.aload_n 3, 1) := by decide +kernel
theorem dL_law_1068 : decode (mB M_L_law) 1068 = .ok (.invokestatic 156, 3) := by decide +kernel
theorem dL_law_1071 : decode (mB M_L_law) 1071 = .ok (.istore 5, 2) := by decide +kernel
theorem dL_law_1073 : decode (mB M_L_law) 1073 = .ok (.aload_n 2, 1) := by decide +kernel
theorem dL_law_1074 : decode (mB M_L_law) 1074 = .ok (.aload_n 0, 1) := by decide +kernel
theorem dL_law_1075 : decode (mB M_L_law) 1075 = .ok (.iload 4, 2) := by decide +kernel
theorem dL_law_1077 : decode (mB M_L_law) 1077 = .ok (.iconst 1, 1) := by decide +kernel
theorem dL_law_1078 : decode (mB M_L_law) 1078 = .ok (.iadd, 1) := by decide +kernel
theorem dL_law_1079 : decode (mB M_L_law) 1079 = .ok (.iaload, 1) := by decide +kernel
theorem dL_law_1080 : decode (mB M_L_law) 1080 = .ok (.aload_n 0, 1) := by decide +kernel
theorem dL_law_1081 : decode (mB M_L_law) 1081 = .ok (.iload 4, 2) := by decide +kernel
theorem dL_law_1083 : decode (mB M_L_law) 1083 = .ok (.iconst 2, 1) := by decide +kernel
theorem dL_law_1084 : decode (mB M_L_law) 1084 = .ok (.iadd, 1) := by decide +kernel
theorem dL_law_1085 : decode (mB M_L_law) 1085 = .ok (.iaload, 1) := by decide +kernel
theorem dL_law_1086 : decode (mB M_L_law) 1086 = .ok (.invokevirtual 158, 3) := by decide +kernel
theorem dL_law_1089 : decode (mB M_L_law) 1089 = .ok (.istore 6, 2) := by decide +kernel
theorem dL_law_1091 : decode (mB M_L_law) 1091 = .ok (.aload_n 2, 1) := by decide +kernel
theorem dL_law_1092 : decode (mB M_L_law) 1092 = .ok (.invokevirtual 100, 3) := by decide +kernel
theorem dL_law_1095 : decode (mB M_L_law) 1095 = .ok (.iload 5, 2) := by decide +kernel
theorem dL_law_1097 : decode (mB M_L_law) 1097 = .ok (.if_icmp .eq 5, 3) := by decide +kernel
theorem dL_law_1100 : decode (mB M_L_law) 1100 = .ok (.iconst 0, 1) := by decide +kernel
theorem dL_law_1101 : decode (mB M_L_law) 1101 = .ok (.ireturn, 1) := by decide +kernel
theorem dL_law_1102 : decode (mB M_L_law) 1102 = .ok (.iload 5, 2) := by decide +kernel
theorem dL_law_1104 : decode (mB M_L_law) 1104 = .ok (.ifCond .ne 15, 3) := by decide +kernel
theorem dL_law_1107 : decode (mB M_L_law) 1107 = .ok (.aload_n 3, 1) := by decide +kernel
theorem dL_law_1108 : decode (mB M_L_law) 1108 = .ok (.iconst 0, 1) := by decide +kernel
theorem dL_law_1109 : decode (mB M_L_law) 1109 = .ok (.laload, 1) := by decide +kernel
theorem dL_law_1110 : decode (mB M_L_law) 1110 = .ok (.iload 6, 2) := by decide +kernel
theorem dL_law_1112 : decode (mB M_L_law) 1112 = .ok (.i2l, 1) := by decide +kernel
theorem dL_law_1113 : decode (mB M_L_law) 1113 = .ok (.lcmp, 1) := by decide +kernel
theorem dL_law_1114 : decode (mB M_L_law) 1114 = .ok (.ifCond .eq 5, 3) := by decide +kernel
theorem dL_law_1117 : decode (mB M_L_law) 1117 = .ok (.iconst 0, 1) := by decide +kernel
theorem dL_law_1118 : decode (mB M_L_law) 1118 = .ok (.ireturn, 1) := by decide +kernel
theorem dL_law_1119 : decode (mB M_L_law) 1119 = .ok (.goto 546, 3) := by decide +kernel
theorem dL_law_1122 : decode (mB M_L_law) 1122 = .ok (.aload_n 1, 1) := by decide +kernel
theorem dL_law_1123 : decode (mB M_L_law) 1123 = .ok (.aload_n 0, 1) := by decide +kernel
theorem dL_law_1124 : decode (mB M_L_law) 1124 = .ok (.iload 4, 2) := by decide +kernel
theorem dL_law_1126 : decode (mB M_L_law) 1126 = .ok (.iconst 1, 1) := by decide +kernel
theorem dL_law_1127 : decode (mB M_L_law) 1127 = .ok (.iadd, 1) := by decide +kernel
theorem dL_law_1128 : decode (mB M_L_law) 1128 = .ok (.iaload, 1) := by decide +kernel
theorem dL_law_1129 : decode (mB M_L_law) 1129 = .ok (.aload_n 0, 1) := by decide +kernel
theorem dL_law_1130 : decode (mB M_L_law) 1130 = .ok (.iload 4, 2) := by decide +kernel
theorem dL_law_1132 : decode (mB M_L_law) 1132 = .ok (.iconst 2, 1) := by decide +kernel
theorem dL_law_1133 : decode (mB M_L_law) 1133 = .ok (.iadd, 1) := by decide +kernel
theorem dL_law_1134 : decode (mB M_L_law) 1134 = .ok (.iaload, 1) := by decide +kernel
theorem dL_law_1135 : decode (mB M_L_law) 1135 = .ok (.aload_n 0, 1) := by decide +kernel
theorem dL_law_1136 : decode (mB M_L_law) 1136 = .ok (.iload 4, 2) := by decide +kernel
theorem dL_law_1138 : decode (mB M_L_law) 1138 = .ok (.iconst 3, 1) := by decide +kernel
theorem dL_law_1139 : decode (mB M_L_law) 1139 = .ok (.iadd, 1) := by decide +kernel
theorem dL_law_1140 : decode (mB M_L_law) 1140 = .ok (.iaload, 1) := by decide +kernel
theorem dL_law_1141 : decode (mB M_L_law) 1141 = .ok (.aload_n 3, 1) := by decide +kernel
theorem dL_law_1142 : decode (mB M_L_law) 1142 = .ok (.invokestatic 159, 3) := by decide +kernel
theorem dL_law_1145 : decode (mB M_L_law) 1145 = .ok (.istore 5, 2) := by decide +kernel
theorem dL_law_1147 : decode (mB M_L_law) 1147 = .ok (.aload_n 2, 1) := by decide +kernel
theorem dL_law_1148 : decode (mB M_L_law) 1148 = .ok (.aload_n 0, 1) := by decide +kernel
theorem dL_law_1149 : decode (mB M_L_law) 1149 = .ok (.iload 4, 2) := by decide +kernel
theorem dL_law_1151 : decode (mB M_L_law) 1151 = .ok (.iconst 1, 1) := by decide +kernel
theorem dL_law_1152 : decode (mB M_L_law) 1152 = .ok (.iadd, 1) := by decide +kernel
theorem dL_law_1153 : decode (mB M_L_law) 1153 = .ok (.iaload, 1) := by decide +kernel
theorem dL_law_1154 : decode (mB M_L_law) 1154 = .ok (.aload_n 0, 1) := by decide +kernel
theorem dL_law_1155 : decode (mB M_L_law) 1155 = .ok (.iload 4, 2) := by decide +kernel
theorem dL_law_1157 : decode (mB M_L_law) 1157 = .ok (.iconst 2, 1) := by decide +kernel
theorem dL_law_1158 : decode (mB M_L_law) 1158 = .ok (.iadd, 1) := by decide +kernel
theorem dL_law_1159 : decode (mB M_L_law) 1159 = .ok (.iaload, 1) := by decide +kernel
theorem dL_law_1160 : decode (mB M_L_law) 1160 = .ok (.aload_n 0, 1) := by decide +kernel
theorem dL_law_1161 : decode (mB M_L_law) 1161 = .ok (.iload 4, 2) := by decide +kernel
theorem dL_law_1163 : decode (mB M_L_law) 1163 = .ok (.iconst 3, 1) := by decide +kernel
theorem dL_law_1164 : decode (mB M_L_law) 1164 = .ok (.iadd, 1) := by decide +kernel
theorem dL_law_1165 : decode (mB M_L_law) 1165 = .ok (.iaload, 1) := by decide +kernel
theorem dL_law_1166 : decode (mB M_L_law) 1166 = .ok (.invokevirtual 161, 3) := by decide +kernel
theorem dL_law_1169 : decode (mB M_L_law) 1169 = .ok (.istore 6, 2) := by decide +kernel
theorem dL_law_1171 : decode (mB M_L_law) 1171 = .ok (.aload_n 2, 1) := by decide +kernel
theorem dL_law_1172 : decode (mB M_L_law) 1172 = .ok (.invokevirtual 100, 3) := by decide +kernel
theorem dL_law_1175 : decode (mB M_L_law) 1175 = .ok (.iload 5, 2) := by decide +kernel
theorem dL_law_1177 : decode (mB M_L_law) 1177 = .ok (.if_icmp .eq 5, 3) := by decide +kernel
theorem dL_law_1180 : decode (mB M_L_law) 1180 = .ok (.iconst 0, 1) := by decide +kernel
theorem dL_law_1181 : decode (mB M_L_law) 1181 = .ok (.ireturn, 1) := by decide +kernel
theorem dL_law_1182 : decode (mB M_L_law) 1182 = .ok (.iload 5, 2) := by decide +kernel
theorem dL_law_1184 : decode (mB M_L_law) 1184 = .ok (.ifCond .ne 15, 3) := by decide +kernel
theorem dL_law_1187 : decode (mB M_L_law) 1187 = .ok (.aload_n 3, 1) := by decide +kernel
theorem dL_law_1188 : decode (mB M_L_law) 1188 = .ok (.iconst 0, 1) := by decide +kernel
theorem dL_law_1189 : decode (mB M_L_law) 1189 = .ok (.laload, 1) := by decide +kernel
theorem dL_law_1190 : decode (mB M_L_law) 1190 = .ok (.iload 6, 2) := by decide +kernel
theorem dL_law_1192 : decode (mB M_L_law) 1192 = .ok (.i2l, 1) := by decide +kernel
theorem dL_law_1193 : decode (mB M_L_law) 1193 = .ok (.lcmp, 1) := by decide +kernel
theorem dL_law_1194 : decode (mB M_L_law) 1194 = .ok (.ifCond .eq 5, 3) := by decide +kernel
theorem dL_law_1197 : decode (mB M_L_law) 1197 = .ok (.iconst 0, 1) := by decide +kernel
theorem dL_law_1198 : decode (mB M_L_law) 1198 = .ok (.ireturn, 1) := by decide +kernel
theorem dL_law_1199 : decode (mB M_L_law) 1199 = .ok (.goto 466, 3) := by decide +kernel
theorem dL_law_1202 : decode (mB M_L_law) 1202 = .ok (.aload_n 1, 1) := by decide +kernel
theorem dL_law_1203 : decode (mB M_L_law) 1203 = .ok (.invokevirtual 162, 3) := by decide +kernel
theorem dL_law_1206 : decode (mB M_L_law) 1206 = .ok (.aload_n 2, 1) := by decide +kernel
theorem dL_law_1207 : decode (mB M_L_law) 1207 = .ok (.invokevirtual 165, 3) := by decide +kernel
theorem dL_law_1210 : decode (mB M_L_law) 1210 = .ok (.if_icmp .eq 455, 3) := by decide +kernel
theorem dL_law_1213 : decode (mB M_L_law) 1213 = .ok (.iconst 0, 1) := by decide +kernel
theorem dL_law_1214 : decode (mB M_L_law) 1214 = .ok (.ireturn, 1) := by decide +kernel
theorem dL_law_1215 : decode (mB M_L_law) 1215 = .ok (.aload_n 1, 1) := by decide +kernel
theorem dL_law_1216 : decode (mB M_L_law) 1216 = .ok (.aload_n 0, 1) := by decide +kernel
theorem dL_law_1217 : decode (mB M_L_law) 1217 = .ok (.iload 4, 2) := by decide +kernel
theorem dL_law_1219 : decode (mB M_L_law) 1219 = .ok (.iconst 1, 1) := by decide +kernel
theorem dL_law_1220 : decode (mB M_L_law) 1220 = .ok (.iadd, 1) := by decide +kernel
theorem dL_law_1221 : decode (mB M_L_law) 1221 = .ok (.iaload, 1) := by decide +kernel
theorem dL_law_1222 : decode (mB M_L_law) 1222 = .ok (.aload_n 3, 1) := by decide +kernel
theorem dL_law_1223 : decode (mB M_L_law) 1223 = .ok (.invokestatic 166, 3) := by decide +kernel
theorem dL_law_1226 : decode (mB M_L_law) 1226 = .ok (.istore 5, 2) := by decide +kernel
theorem dL_law_1228 : decode (mB M_L_law) 1228 = .ok (.aload_n 2, 1) := by decide +kernel
theorem dL_law_1229 : decode (mB M_L_law) 1229 = .ok (.aload_n 0, 1) := by decide +kernel
theorem dL_law_1230 : decode (mB M_L_law) 1230 = .ok (.iload 4, 2) := by decide +kernel
theorem dL_law_1232 : decode (mB M_L_law) 1232 = .ok (.iconst 1, 1) := by decide +kernel
theorem dL_law_1233 : decode (mB M_L_law) 1233 = .ok (.iadd, 1) := by decide +kernel
theorem dL_law_1234 : decode (mB M_L_law) 1234 = .ok (.iaload, 1) := by decide +kernel
theorem dL_law_1235 : decode (mB M_L_law) 1235 = .ok (.invokevirtual 168, 3) := by decide +kernel
theorem dL_law_1238 : decode (mB M_L_law) 1238 = .ok (.istore 6, 2) := by decide +kernel
theorem dL_law_1240 : decode (mB M_L_law) 1240 = .ok (.aload_n 2, 1) := by decide +kernel
theorem dL_law_1241 : decode (mB M_L_law) 1241 = .ok (.invokevirtual 100, 3) := by decide +kernel
theorem dL_law_1244 : decode (mB M_L_law) 1244 = .ok (.iload 5, 2) := by decide +kernel
theorem dL_law_1246 : decode (mB M_L_law) 1246 = .ok (.if_icmp .eq 5, 3) := by decide +kernel
theorem dL_law_1249 : decode (mB M_L_law) 1249 = .ok (.iconst 0, 1) := by decide +kernel
theorem dL_law_1250 : decode (mB M_L_law) 1250 = .ok (.ireturn, 1) := by decide +kernel
theorem dL_law_1251 : decode (mB M_L_law) 1251 = .ok (.iload 5, 2) := by decide +kernel
theorem dL_law_1253 : decode (mB M_L_law) 1253 = .ok (.ifCond .ne 15, 3) := by decide +kernel
theorem dL_law_1256 : decode (mB M_L_law) 1256 = .ok (.aload_n 3, 1) := by decide +kernel
theorem dL_law_1257 : decode (mB M_L_law) 1257 = .ok (.iconst 0, 1) := by decide +kernel
theorem dL_law_1258 : decode (mB M_L_law) 1258 = .ok (.laload, 1) := by decide +kernel
theorem dL_law_1259 : decode (mB M_L_law) 1259 = .ok (.iload 6, 2) := by decide +kernel
theorem dL_law_1261 : decode (mB M_L_law) 1261 = .ok (.i2l, 1) := by decide +kernel
theorem dL_law_1262 : decode (mB M_L_law) 1262 = .ok (.lcmp, 1) := by decide +kernel
theorem dL_law_1263 : decode (mB M_L_law) 1263 = .ok (.ifCond .eq 5, 3) := by decide +kernel
theorem dL_law_1266 : decode (mB M_L_law) 1266 = .ok (.iconst 0, 1) := by decide +kernel
theorem dL_law_1267 : decode (mB M_L_law) 1267 = .ok (.ireturn, 1) := by decide +kernel
theorem dL_law_1268 : decode (mB M_L_law) 1268 = .ok (.goto 397, 3) := by decide +kernel
theorem dL_law_1271 : decode (mB M_L_law) 1271 = .ok (.aload_n 1, 1) := by decide +kernel
theorem dL_law_1272 : decode (mB M_L_law) 1272 = .ok (.aload_n 0, 1) := by decide +kernel
theorem dL_law_1273 : decode (mB M_L_law) 1273 = .ok (.iload 4, 2) := by decide +kernel
theorem dL_law_1275 : decode (mB M_L_law) 1275 = .ok (.iconst 1, 1) := by decide +kernel
theorem dL_law_1276 : decode (mB M_L_law) 1276 = .ok (.iadd, 1) := by decide +kernel
theorem dL_law_1277 : decode (mB M_L_law) 1277 = .ok (.iaload, 1) := by decide +kernel
theorem dL_law_1278 : decode (mB M_L_law) 1278 = .ok (.aload_n 3, 1) := by decide +kernel
theorem dL_law_1279 : decode (mB M_L_law) 1279 = .ok (.invokestatic 169, 3) := by decide +kernel
theorem dL_law_1282 : decode (mB M_L_law) 1282 = .ok (.istore 5, 2) := by decide +kernel
theorem dL_law_1284 : decode (mB M_L_law) 1284 = .ok (.aload_n 2, 1) := by decide +kernel
theorem dL_law_1285 : decode (mB M_L_law) 1285 = .ok (.aload_n 0, 1) := by decide +kernel
theorem dL_law_1286 : decode (mB M_L_law) 1286 = .ok (.iload 4, 2) := by decide +kernel
theorem dL_law_1288 : decode (mB M_L_law) 1288 = .ok (.iconst 1, 1) := by decide +kernel
theorem dL_law_1289 : decode (mB M_L_law) 1289 = .ok (.iadd, 1) := by decide +kernel
theorem dL_law_1290 : decode (mB M_L_law) 1290 = .ok (.iaload, 1) := by decide +kernel
theorem dL_law_1291 : decode (mB M_L_law) 1291 = .ok (.invokevirtual 171, 3) := by decide +kernel
theorem dL_law_1294 : decode (mB M_L_law) 1294 = .ok (.istore 6, 2) := by decide +kernel
theorem dL_law_1296 : decode (mB M_L_law) 1296 = .ok (.aload_n 2, 1) := by decide +kernel
theorem dL_law_1297 : decode (mB M_L_law) 1297 = .ok (.invokevirtual 100, 3) := by decide +kernel
theorem dL_law_1300 : decode (mB M_L_law) 1300 = .ok (.iload 5, 2) := by decide +kernel
theorem dL_law_1302 : decode (mB M_L_law) 1302 = .ok (.if_icmp .eq 5, 3) := by decide +kernel
theorem dL_law_1305 : decode (mB M_L_law) 1305 = .ok (.iconst 0, 1) := by decide +kernel
theorem dL_law_1306 : decode (mB M_L_law) 1306 = .ok (.ireturn, 1) := by decide +kernel
theorem dL_law_1307 : decode (mB M_L_law) 1307 = .ok (.iload 5, 2) := by decide +kernel
theorem dL_law_1309 : decode (mB M_L_law) 1309 = .ok (.ifCond .ne 15, 3) := by decide +kernel
theorem dL_law_1312 : decode (mB M_L_law) 1312 = .ok (.aload_n 3, 1) := by decide +kernel
theorem dL_law_1313 : decode (mB M_L_law) 1313 = .ok (.iconst 0, 1) := by decide +kernel
theorem dL_law_1314 : decode (mB M_L_law) 1314 = .ok (.laload, 1) := by decide +kernel
theorem dL_law_1315 : decode (mB M_L_law) 1315 = .ok (.iload 6, 2) := by decide +kernel
theorem dL_law_1317 : decode (mB M_L_law) 1317 = .ok (.i2l, 1) := by decide +kernel
theorem dL_law_1318 : decode (mB M_L_law) 1318 = .ok (.lcmp, 1) := by decide +kernel
theorem dL_law_1319 : decode (mB M_L_law) 1319 = .ok (.ifCond .eq 5, 3) := by decide +kernel
theorem dL_law_1322 : decode (mB M_L_law) 1322 = .ok (.iconst 0, 1) := by decide +kernel
theorem dL_law_1323 : decode (mB M_L_law) 1323 = .ok (.ireturn, 1) := by decide +kernel
theorem dL_law_1324 : decode (mB M_L_law) 1324 = .ok (.goto 341, 3) := by decide +kernel
theorem dL_law_1327 : decode (mB M_L_law) 1327 = .ok (.aload_n 1, 1) := by decide +kernel
theorem dL_law_1328 : decode (mB M_L_law) 1328 = .ok (.invokevirtual 172, 3) := by decide +kernel
theorem dL_law_1331 : decode (mB M_L_law) 1331 = .ok (.aload_n 2, 1) := by decide +kernel
theorem dL_law_1332 : decode (mB M_L_law) 1332 = .ok (.invokevirtual 175, 3) := by decide +kernel
theorem dL_law_1335 : decode (mB M_L_law) 1335 = .ok (.if_icmp .eq 330, 3) := by decide +kernel
theorem dL_law_1338 : decode (mB M_L_law) 1338 = .ok (.iconst 0, 1) := by decide +kernel
theorem dL_law_1339 : decode (mB M_L_law) 1339 = .ok (.ireturn, 1) := by decide +kernel
theorem dL_law_1340 : decode (mB M_L_law) 1340 = .ok (.aload_n 1, 1) := by decide +kernel
theorem dL_law_1341 : decode (mB M_L_law) 1341 = .ok (.invokevirtual 176, 3) := by decide +kernel
theorem dL_law_1344 : decode (mB M_L_law) 1344 = .ok (.aload_n 2, 1) := by decide +kernel
theorem dL_law_1345 : decode (mB M_L_law) 1345 = .ok (.invokevirtual 179, 3) := by decide +kernel
theorem dL_law_1348 : decode (mB M_L_law) 1348 = .ok (.if_icmp .eq 317, 3) := by decide +kernel
theorem dL_law_1351 : decode (mB M_L_law) 1351 = .ok (.iconst 0, 1) := by decide +kernel
theorem dL_law_1352 : decode (mB M_L_law) 1352 = .ok (.ireturn, 1) := by decide +kernel
theorem dL_law_1353 : decode (mB M_L_law) 1353 = .ok (.aload_n 1, 1) := by decide +kernel
theorem dL_law_1354 : decode (mB M_L_law) 1354 = .ok (.aload_n 0, 1) := by decide +kernel
theorem dL_law_1355 : decode (mB M_L_law) 1355 = .ok (.iload 4, 2) := by decide +kernel
theorem dL_law_1357 : decode (mB M_L_law) 1357 = .ok (.iconst 1, 1) := by decide +kernel
theorem dL_law_1358 : decode (mB M_L_law) 1358 = .ok (.iadd, 1) := by decide +kernel
theorem dL_law_1359 : decode (mB M_L_law) 1359 = .ok (.iaload, 1) := by decide +kernel
theorem dL_law_1360 : decode (mB M_L_law) 1360 = .ok (.aload_n 0, 1) := by decide +kernel
theorem dL_law_1361 : decode (mB M_L_law) 1361 = .ok (.iload 4, 2) := by decide +kernel
theorem dL_law_1363 : decode (mB M_L_law) 1363 = .ok (.iconst 2, 1) := by decide +kernel
theorem dL_law_1364 : decode (mB M_L_law) 1364 = .ok (.iadd, 1) := by decide +kernel
theorem dL_law_1365 : decode (mB M_L_law) 1365 = .ok (.iaload, 1) := by decide +kernel
theorem dL_law_1366 : decode (mB M_L_law) 1366 = .ok (.i2l, 1) := by decide +kernel
theorem dL_law_1367 : decode (mB M_L_law) 1367 = .ok (.bipush 32, 2) := by decide +kernel
theorem dL_law_1369 : decode (mB M_L_law) 1369 = .ok (.lshl, 1) := by decide +kernel
theorem dL_law_1370 : decode (mB M_L_law) 1370 = .ok (.aload_n 0, 1) := by decide +kernel
theorem dL_law_1371 : decode (mB M_L_law) 1371 = .ok (.iload 4, 2) := by decide +kernel
theorem dL_law_1373 : decode (mB M_L_law) 1373 = .ok (.iconst 3, 1) := by decide +kernel
theorem dL_law_1374 : decode (mB M_L_law) 1374 = .ok (.iadd, 1) := by decide +kernel
theorem dL_law_1375 : decode (mB M_L_law) 1375 = .ok (.iaload, 1) := by decide +kernel
theorem dL_law_1376 : decode (mB M_L_law) 1376 = .ok (.i2l, 1) := by decide +kernel
theorem dL_law_1377 : decode (mB M_L_law) 1377 = .ok (.ldc2_w 180, 3) := by decide +kernel
theorem dL_law_1380 : decode (mB M_L_law) 1380 = .ok (.land, 1) := by decide +kernel
theorem dL_law_1381 : decode (mB M_L_law) 1381 = .ok (.lor, 1) := by decide +kernel
theorem dL_law_1382 : decode (mB M_L_law) 1382 = .ok (.aload_n 3, 1) := by decide +kernel
theorem dL_law_1383 : decode (mB M_L_law) 1383 = .ok (.invokestatic 182, 3) := by decide +kernel
theorem dL_law_1386 : decode (mB M_L_law) 1386 = .ok (.istore 5, 2) := by decide +kernel
theorem dL_law_1388 : decode (mB M_L_law) 1388 = .ok (.aload_n 2, 1) := by decide +kernel
theorem dL_law_1389 : decode (mB M_L_law) 1389 = .ok (.aload_n 0, 1) := by decide +kernel
theorem dL_law_1390 : decode (mB M_L_law) 1390 = .ok (.iload 4, 2) := by decide +kernel
theorem dL_law_1392 : decode (mB M_L_law) 1392 = .ok (.iconst 1, 1) := by decide +kernel
theorem dL_law_1393 : decode (mB M_L_law) 1393 = .ok (.iadd, 1) := by decide +kernel
theorem dL_law_1394 : decode (mB M_L_law) 1394 = .ok (.iaload, 1) := by decide +kernel
theorem dL_law_1395 : decode (mB M_L_law) 1395 = .ok (.aload_n 0, 1) := by decide +kernel
theorem dL_law_1396 : decode (mB M_L_law) 1396 = .ok (.iload 4, 2) := by decide +kernel
theorem dL_law_1398 : decode (mB M_L_law) 1398 = .ok (.iconst 2, 1) := by decide +kernel
theorem dL_law_1399 : decode (mB M_L_law) 1399 = .ok (.iadd, 1) := by decide +kernel
theorem dL_law_1400 : decode (mB M_L_law) 1400 = .ok (.iaload, 1) := by decide +kernel
theorem dL_law_1401 : decode (mB M_L_law) 1401 = .ok (.i2l, 1) := by decide +kernel
theorem dL_law_1402 : decode (mB M_L_law) 1402 = .ok (.bipush 32, 2) := by decide +kernel
theorem dL_law_1404 : decode (mB M_L_law) 1404 = .ok (.lshl, 1) := by decide +kernel
theorem dL_law_1405 : decode (mB M_L_law) 1405 = .ok (.aload_n 0, 1) := by decide +kernel
theorem dL_law_1406 : decode (mB M_L_law) 1406 = .ok (.iload 4, 2) := by decide +kernel
theorem dL_law_1408 : decode (mB M_L_law) 1408 = .ok (.iconst 3, 1) := by decide +kernel
theorem dL_law_1409 : decode (mB M_L_law) 1409 = .ok (.iadd, 1) := by decide +kernel
theorem dL_law_1410 : decode (mB M_L_law) 1410 = .ok (.iaload, 1) := by decide +kernel
theorem dL_law_1411 : decode (mB M_L_law) 1411 = .ok (.i2l, 1) := by decide +kernel
theorem dL_law_1412 : decode (mB M_L_law) 1412 = .ok (.ldc2_w 180, 3) := by decide +kernel
theorem dL_law_1415 : decode (mB M_L_law) 1415 = .ok (.land, 1) := by decide +kernel
theorem dL_law_1416 : decode (mB M_L_law) 1416 = .ok (.lor, 1) := by decide +kernel
theorem dL_law_1417 : decode (mB M_L_law) 1417 = .ok (.invokevirtual 185, 3) := by decide +kernel
theorem dL_law_1420 : decode (mB M_L_law) 1420 = .ok (.istore 6, 2) := by decide +kernel
theorem dL_law_1422 : decode (mB M_L_law) 1422 = .ok (.aload_n 2, 1) := by decide +kernel
theorem dL_law_1423 : decode (mB M_L_law) 1423 = .ok (.invokevirtual 100, 3) := by decide +kernel
theorem dL_law_1426 : decode (mB M_L_law) 1426 = .ok (.iload 5, 2) := by decide +kernel
theorem dL_law_1428 : decode (mB M_L_law) 1428 = .ok (.if_icmp .eq 5, 3) := by decide +kernel
theorem dL_law_1431 : decode (mB M_L_law) 1431 = .ok (.iconst 0, 1) := by decide +kernel
theorem dL_law_1432 : decode (mB M_L_law) 1432 = .ok (.ireturn, 1) := by decide +kernel
theorem dL_law_1433 : decode (mB M_L_law) 1433 = .ok (.iload 5, 2) := by decide +kernel
theorem dL_law_1435 : decode (mB M_L_law) 1435 = .ok (.ifCond .ne 15, 3) := by decide +kernel
theorem dL_law_1438 : decode (mB M_L_law) 1438 = .ok (.aload_n 3, 1) := by decide +kernel
theorem dL_law_1439 : decode (mB M_L_law) 1439 = .ok (.iconst 0, 1) := by decide +kernel
theorem dL_law_1440 : decode (mB M_L_law) 1440 = .ok (.laload, 1) := by decide +kernel
theorem dL_law_1441 : decode (mB M_L_law) 1441 = .ok (.iload 6, 2) := by decide +kernel
theorem dL_law_1443 : decode (mB M_L_law) 1443 = .ok (.i2l, 1) := by decide +kernel
theorem dL_law_1444 : decode (mB M_L_law) 1444 = .ok (.lcmp, 1) := by decide +kernel
theorem dL_law_1445 : decode (mB M_L_law) 1445 = .ok (.ifCond .eq 5, 3) := by decide +kernel
theorem dL_law_1448 : decode (mB M_L_law) 1448 = .ok (.iconst 0, 1) := by decide +kernel
theorem dL_law_1449 : decode (mB M_L_law) 1449 = .ok (.ireturn, 1) := by decide +kernel
theorem dL_law_1450 : decode (mB M_L_law) 1450 = .ok (.goto 215, 3) := by decide +kernel
theorem dL_law_1453 : decode (mB M_L_law) 1453 = .ok (.aload_n 1, 1) := by decide +kernel
theorem dL_law_1454 : decode (mB M_L_law) 1454 = .ok (.aload_n 0, 1) := by decide +kernel
theorem dL_law_1455 : decode (mB M_L_law) 1455 = .ok (.iload 4, 2) := by decide +kernel
theorem dL_law_1457 : decode (mB M_L_law) 1457 = .ok (.iconst 1, 1) := by decide +kernel
theorem dL_law_1458 : decode (mB M_L_law) 1458 = .ok (.iadd, 1) := by decide +kernel
theorem dL_law_1459 : decode (mB M_L_law) 1459 = .ok (.iaload, 1) := by decide +kernel
theorem dL_law_1460 : decode (mB M_L_law) 1460 = .ok (.i2l, 1) := by decide +kernel
theorem dL_law_1461 : decode (mB M_L_law) 1461 = .ok (.bipush 32, 2) := by decide +kernel
theorem dL_law_1463 : decode (mB M_L_law) 1463 = .ok (.lshl, 1) := by decide +kernel
theorem dL_law_1464 : decode (mB M_L_law) 1464 = .ok (.aload_n 0, 1) := by decide +kernel
theorem dL_law_1465 : decode (mB M_L_law) 1465 = .ok (.iload 4, 2) := by decide +kernel
theorem dL_law_1467 : decode (mB M_L_law) 1467 = .ok (.iconst 2, 1) := by decide +kernel
theorem dL_law_1468 : decode (mB M_L_law) 1468 = .ok (.iadd, 1) := by decide +kernel
theorem dL_law_1469 : decode (mB M_L_law) 1469 = .ok (.iaload, 1) := by decide +kernel
theorem dL_law_1470 : decode (mB M_L_law) 1470 = .ok (.i2l, 1) := by decide +kernel
theorem dL_law_1471 : decode (mB M_L_law) 1471 = .ok (.ldc2_w 180, 3) := by decide +kernel
theorem dL_law_1474 : decode (mB M_L_law) 1474 = .ok (.land, 1) := by decide +kernel
theorem dL_law_1475 : decode (mB M_L_law) 1475 = .ok (.lor, 1) := by decide +kernel
theorem dL_law_1476 : decode (mB M_L_law) 1476 = .ok (.aload_n 0, 1) := by decide +kernel
theorem dL_law_1477 : decode (mB M_L_law) 1477 = .ok (.iload 4, 2) := by decide +kernel
theorem dL_law_1479 : decode (mB M_L_law) 1479 = .ok (.iconst 3, 1) := by decide +kernel
theorem dL_law_1480 : decode (mB M_L_law) 1480 = .ok (.iadd, 1) := by decide +kernel
theorem dL_law_1481 : decode (mB M_L_law) 1481 = .ok (.iaload, 1) := by decide +kernel
theorem dL_law_1482 : decode (mB M_L_law) 1482 = .ok (.aload_n 3, 1) := by decide +kernel
theorem dL_law_1483 : decode (mB M_L_law) 1483 = .ok (.invokestatic 186, 3) := by decide +kernel
theorem dL_law_1486 : decode (mB M_L_law) 1486 = .ok (.istore 5, 2) := by decide +kernel
theorem dL_law_1488 : decode (mB M_L_law) 1488 = .ok (.aload_n 2, 1) := by decide +kernel
theorem dL_law_1489 : decode (mB M_L_law) 1489 = .ok (.aload_n 0, 1) := by decide +kernel
theorem dL_law_1490 : decode (mB M_L_law) 1490 = .ok (.iload 4, 2) := by decide +kernel
theorem dL_law_1492 : decode (mB M_L_law) 1492 = .ok (.iconst 1, 1) := by decide +kernel
theorem dL_law_1493 : decode (mB M_L_law) 1493 = .ok (.iadd, 1) := by decide +kernel
theorem dL_law_1494 : decode (mB M_L_law) 1494 = .ok (.iaload, 1) := by decide +kernel
theorem dL_law_1495 : decode (mB M_L_law) 1495 = .ok (.i2l, 1) := by decide +kernel
theorem dL_law_1496 : decode (mB M_L_law) 1496 = .ok (.bipush 32, 2) := by decide +kernel
theorem dL_law_1498 : decode (mB M_L_law) 1498 = .ok (.lshl, 1) := by decide +kernel
theorem dL_law_1499 : decode (mB M_L_law) 1499 = .ok (.aload_n 0, 1) := by decide +kernel
theorem dL_law_1500 : decode (mB M_L_law) 1500 = .ok (.iload 4, 2) := by decide +kernel
theorem dL_law_1502 : decode (mB M_L_law) 1502 = .ok (.iconst 2, 1) := by decide +kernel
theorem dL_law_1503 : decode (mB M_L_law) 1503 = .ok (.iadd, 1) := by decide +kernel
theorem dL_law_1504 : decode (mB M_L_law) 1504 = .ok (.iaload, 1) := by decide +kernel
theorem dL_law_1505 : decode (mB M_L_law) 1505 = .ok (.i2l, 1) := by decide +kernel
theorem dL_law_1506 : decode (mB M_L_law) 1506 = .ok (.ldc2_w 180, 3) := by decide +kernel
theorem dL_law_1509 : decode (mB M_L_law) 1509 = .ok (.land, 1) := by decide +kernel
theorem dL_law_1510 : decode (mB M_L_law) 1510 = .ok (.lor, 1) := by decide +kernel
theorem dL_law_1511 : decode (mB M_L_law) 1511 = .ok (.aload_n 0, 1) := by decide +kernel
theorem dL_law_1512 : decode (mB M_L_law) 1512 = .ok (.iload 4, 2) := by decide +kernel
theorem dL_law_1514 : decode (mB M_L_law) 1514 = .ok (.iconst 3, 1) := by decide +kernel
theorem dL_law_1515 : decode (mB M_L_law) 1515 = .ok (.iadd, 1) := by decide +kernel
theorem dL_law_1516 : decode (mB M_L_law) 1516 = .ok (.iaload, 1) := by decide +kernel
theorem dL_law_1517 : decode (mB M_L_law) 1517 = .ok (.invokevirtual 189, 3) := by decide +kernel
theorem dL_law_1520 : decode (mB M_L_law) 1520 = .ok (.istore 6, 2) := by decide +kernel
theorem dL_law_1522 : decode (mB M_L_law) 1522 = .ok (.aload_n 2, 1) := by decide +kernel
theorem dL_law_1523 : decode (mB M_L_law) 1523 = .ok (.invokevirtual 100, 3) := by decide +kernel
theorem dL_law_1526 : decode (mB M_L_law) 1526 = .ok (.iload 5, 2) := by decide +kernel
theorem dL_law_1528 : decode (mB M_L_law) 1528 = .ok (.if_icmp .eq 5, 3) := by decide +kernel
theorem dL_law_1531 : decode (mB M_L_law) 1531 = .ok (.iconst 0, 1) := by decide +kernel
theorem dL_law_1532 : decode (mB M_L_law) 1532 = .ok (.ireturn, 1) := by decide +kernel
theorem dL_law_1533 : decode (mB M_L_law) 1533 = .ok (.iload 5, 2) := by decide +kernel
theorem dL_law_1535 : decode (mB M_L_law) 1535 = .ok (.ifCond .ne 15, 3) := by decide +kernel
theorem dL_law_1538 : decode (mB M_L_law) 1538 = .ok (.aload_n 3, 1) := by decide +kernel
theorem dL_law_1539 : decode (mB M_L_law) 1539 = .ok (.iconst 0, 1) := by decide +kernel
theorem dL_law_1540 : decode (mB M_L_law) 1540 = .ok (.laload, 1) := by decide +kernel
theorem dL_law_1541 : decode (mB M_L_law) 1541 = .ok (.iload 6, 2) := by decide +kernel
theorem dL_law_1543 : decode (mB M_L_law) 1543 = .ok (.i2l, 1) := by decide +kernel
theorem dL_law_1544 : decode (mB M_L_law) 1544 = .ok (.lcmp, 1) := by decide +kernel
theorem dL_law_1545 : decode (mB M_L_law) 1545 = .ok (.ifCond .eq 5, 3) := by decide +kernel
theorem dL_law_1548 : decode (mB M_L_law) 1548 = .ok (.iconst 0, 1) := by decide +kernel
theorem dL_law_1549 : decode (mB M_L_law) 1549 = .ok (.ireturn, 1) := by decide +kernel
theorem dL_law_1550 : decode (mB M_L_law) 1550 = .ok (.goto 115, 3) := by decide +kernel
theorem dL_law_1553 : decode (mB M_L_law) 1553 = .ok (.aload_n 1, 1) := by decide +kernel
theorem dL_law_1554 : decode (mB M_L_law) 1554 = .ok (.aload_n 0, 1) := by decide +kernel
theorem dL_law_1555 : decode (mB M_L_law) 1555 = .ok (.iload 4, 2) := by decide +kernel
theorem dL_law_1557 : decode (mB M_L_law) 1557 = .ok (.iconst 1, 1) := by decide +kernel
theorem dL_law_1558 : decode (mB M_L_law) 1558 = .ok (.iadd, 1) := by decide +kernel
theorem dL_law_1559 : decode (mB M_L_law) 1559 = .ok (.iaload, 1) := by decide +kernel
theorem dL_law_1560 : decode (mB M_L_law) 1560 = .ok (.aload_n 3, 1) := by decide +kernel
theorem dL_law_1561 : decode (mB M_L_law) 1561 = .ok (.invokestatic 190, 3) := by decide +kernel
theorem dL_law_1564 : decode (mB M_L_law) 1564 = .ok (.istore 5, 2) := by decide +kernel
theorem dL_law_1566 : decode (mB M_L_law) 1566 = .ok (.aload_n 2, 1) := by decide +kernel
theorem dL_law_1567 : decode (mB M_L_law) 1567 = .ok (.aload_n 0, 1) := by decide +kernel
theorem dL_law_1568 : decode (mB M_L_law) 1568 = .ok (.iload 4, 2) := by decide +kernel
theorem dL_law_1570 : decode (mB M_L_law) 1570 = .ok (.iconst 1, 1) := by decide +kernel
theorem dL_law_1571 : decode (mB M_L_law) 1571 = .ok (.iadd, 1) := by decide +kernel
theorem dL_law_1572 : decode (mB M_L_law) 1572 = .ok (.iaload, 1) := by decide +kernel
theorem dL_law_1573 : decode (mB M_L_law) 1573 = .ok (.invokevirtual 192, 3) := by decide +kernel
theorem dL_law_1576 : decode (mB M_L_law) 1576 = .ok (.istore 6, 2) := by decide +kernel
theorem dL_law_1578 : decode (mB M_L_law) 1578 = .ok (.aload_n 2, 1) := by decide +kernel
theorem dL_law_1579 : decode (mB M_L_law) 1579 = .ok (.invokevirtual 100, 3) := by decide +kernel
theorem dL_law_1582 : decode (mB M_L_law) 1582 = .ok (.iload 5, 2) := by decide +kernel
theorem dL_law_1584 : decode (mB M_L_law) 1584 = .ok (.if_icmp .eq 5, 3) := by decide +kernel
theorem dL_law_1587 : decode (mB M_L_law) 1587 = .ok (.iconst 0, 1) := by decide +kernel
theorem dL_law_1588 : decode (mB M_L_law) 1588 = .ok (.ireturn, 1) := by decide +kernel
theorem dL_law_1589 : decode (mB M_L_law) 1589 = .ok (.iload 5, 2) := by decide +kernel
theorem dL_law_1591 : decode (mB M_L_law) 1591 = .ok (.ifCond .ne 15, 3) := by decide +kernel
theorem dL_law_1594 : decode (mB M_L_law) 1594 = .ok (.aload_n 3, 1) := by decide +kernel
theorem dL_law_1595 : decode (mB M_L_law) 1595 = .ok (.iconst 0, 1) := by decide +kernel
theorem dL_law_1596 : decode (mB M_L_law) 1596 = .ok (.laload, 1) := by decide +kernel
theorem dL_law_1597 : decode (mB M_L_law) 1597 = .ok (.iload 6, 2) := by decide +kernel
theorem dL_law_1599 : decode (mB M_L_law) 1599 = .ok (.i2l, 1) := by decide +kernel
theorem dL_law_1600 : decode (mB M_L_law) 1600 = .ok (.lcmp, 1) := by decide +kernel
theorem dL_law_1601 : decode (mB M_L_law) 1601 = .ok (.ifCond .eq 5, 3) := by decide +kernel
theorem dL_law_1604 : decode (mB M_L_law) 1604 = .ok (.iconst 0, 1) := by decide +kernel
theorem dL_law_1605 : decode (mB M_L_law) 1605 = .ok (.ireturn, 1) := by decide +kernel
theorem dL_law_1606 : decode (mB M_L_law) 1606 = .ok (.goto 59, 3) := by decide +kernel
theorem dL_law_1609 : decode (mB M_L_law) 1609 = .ok (.aload_n 1, 1) := by decide +kernel
theorem dL_law_1610 : decode (mB M_L_law) 1610 = .ok (.aload_n 0, 1) := by decide +kernel
theorem dL_law_1611 : decode (mB M_L_law) 1611 = .ok (.iload 4, 2) := by decide +kernel
theorem dL_law_1613 : decode (mB M_L_law) 1613 = .ok (.iconst 1, 1) := by decide +kernel
theorem dL_law_1614 : decode (mB M_L_law) 1614 = .ok (.iadd, 1) := by decide +kernel
theorem dL_law_1615 : decode (mB M_L_law) 1615 = .ok (.iaload, 1) := by decide +kernel
theorem dL_law_1616 : decode (mB M_L_law) 1616 = .ok (.aload_n 3, 1) := by decide +kernel
theorem dL_law_1617 : decode (mB M_L_law) 1617 = .ok (.invokestatic 193, 3) := by decide +kernel
theorem dL_law_1620 : decode (mB M_L_law) 1620 = .ok (.istore 5, 2) := by decide +kernel
theorem dL_law_1622 : decode (mB M_L_law) 1622 = .ok (.aload_n 2, 1) := by decide +kernel
theorem dL_law_1623 : decode (mB M_L_law) 1623 = .ok (.aload_n 0, 1) := by decide +kernel
theorem dL_law_1624 : decode (mB M_L_law) 1624 = .ok (.iload 4, 2) := by decide +kernel
theorem dL_law_1626 : decode (mB M_L_law) 1626 = .ok (.iconst 1, 1) := by decide +kernel
theorem dL_law_1627 : decode (mB M_L_law) 1627 = .ok (.iadd, 1) := by decide +kernel
theorem dL_law_1628 : decode (mB M_L_law) 1628 = .ok (.iaload, 1) := by decide +kernel
theorem dL_law_1629 : decode (mB M_L_law) 1629 = .ok (.invokevirtual 195, 3) := by decide +kernel
theorem dL_law_1632 : decode (mB M_L_law) 1632 = .ok (.istore 6, 2) := by decide +kernel
theorem dL_law_1634 : decode (mB M_L_law) 1634 = .ok (.aload_n 2, 1) := by decide +kernel
theorem dL_law_1635 : decode (mB M_L_law) 1635 = .ok (.invokevirtual 100, 3) := by decide +kernel
theorem dL_law_1638 : decode (mB M_L_law) 1638 = .ok (.iload 5, 2) := by decide +kernel
theorem dL_law_1640 : decode (mB M_L_law) 1640 = .ok (.if_icmp .eq 5, 3) := by decide +kernel
theorem dL_law_1643 : decode (mB M_L_law) 1643 = .ok (.iconst 0, 1) := by decide +kernel
theorem dL_law_1644 : decode (mB M_L_law) 1644 = .ok (.ireturn, 1) := by decide +kernel
theorem dL_law_1645 : decode (mB M_L_law) 1645 = .ok (.iload 5, 2) := by decide +kernel
theorem dL_law_1647 : decode (mB M_L_law) 1647 = .ok (.ifCond .ne 15, 3) := by decide +kernel
theorem dL_law_1650 : decode (mB M_L_law) 1650 = .ok (.aload_n 3, 1) := by decide +kernel
theorem dL_law_1651 : decode (mB M_L_law) 1651 = .ok (.iconst 0, 1) := by decide +kernel
theorem dL_law_1652 : decode (mB M_L_law) 1652 = .ok (.laload, 1) := by decide +kernel
theorem dL_law_1653 : decode (mB M_L_law) 1653 = .ok (.iload 6, 2) := by decide +kernel
theorem dL_law_1655 : decode (mB M_L_law) 1655 = .ok (.i2l, 1) := by decide +kernel
theorem dL_law_1656 : decode (mB M_L_law) 1656 = .ok (.lcmp, 1) := by decide +kernel
theorem dL_law_1657 : decode (mB M_L_law) 1657 = .ok (.ifCond .eq 5, 3) := by decide +kernel
theorem dL_law_1660 : decode (mB M_L_law) 1660 = .ok (.iconst 0, 1) := by decide +kernel
theorem dL_law_1661 : decode (mB M_L_law) 1661 = .ok (.ireturn, 1) := by decide +kernel
theorem dL_law_1662 : decode (mB M_L_law) 1662 = .ok (.goto 3, 3) := by decide +kernel
theorem dL_law_1665 : decode (mB M_L_law) 1665 = .ok (.iinc 4 4, 3) := by decide +kernel
theorem dL_law_1668 : decode (mB M_L_law) 1668 = .ok (.goto (-1645), 3) := by decide +kernel
theorem dL_law_1671 : decode (mB M_L_law) 1671 = .ok (.iconst 1, 1) := by decide +kernel
theorem dL_law_1672 : decode (mB M_L_law) 1672 = .ok (.ireturn, 1) := by decide +kernel
def c_L_law_23 (L : Nat) (xs : Nat → Int32) (v0 : Nat) (k23 : HP → Nat → Nat → Nat → Nat → Nat → Int32 → Option (Int32)) (h : HP) (bc bs : Nat) (v1 : Nat) (v2 : Nat) (v3 : Nat) (v4 : Int32) : Option (Int32) :=
  if ((Int32.ofNat L) - 4) < v4 then some (1) else (sL L xs v4).bind fun x2 => if (x2 &&& 31) = 0 then (sL L xs (v4 + 1)).bind fun x4 => (tk bc 1).bind fun b6 => (tk bs 6).bind fun b7 => (f_L_append h v1 x4 v3).bind fun y5 => (sL L xs (v4 + 1)).bind fun x8 => (f_X8_append y5.2 v2 x8).bind fun y9 => (f_X8_thrown y9.2 v2).bind fun y10 => if y10 = y5.1 then if y5.1 = 0 then (aL y9.2 v3 0).bind fun x13 => if (lg_cmp x13 (Int32.toInt64 y9.1)) = 0 then k23 y9.2 b6 b7 v1 v2 v3 (v4 + 4) else some (0) else k23 y9.2 b6 b7 v1 v2 v3 (v4 + 4) else some (0) else if (x2 &&& 31) = 1 then (f_X7_clearText h v1).bind fun y16 => (f_X8_clearText y16.2 v2).bind fun y17 => if y16.1 = y17.1 then k23 y17.2 bc bs v1 v2 v3 (v4 + 4) else some (0) else if (x2 &&& 31) = 2 then (f_X7_errorPosition h v1).bind fun y20 => (f_X8_errorPosition h v2).bind fun y21 => if y20 = y21.1 then k23 y21.2 bc bs v1 v2 v3 (v4 + 4) else some (0) else if (x2 &&& 31) = 3 then (tk bc 1).bind fun b25 => (tk bs 6).bind fun b26 => (f_L_load h v1 v3).bind fun y24 => (f_X8_load y24.2 v2).bind fun y27 => (f_X8_thrown y27.2 v2).bind fun y28 => if y28 = y24.1 then if y24.1 = 0 then (aL y27.2 v3 0).bind fun x31 => if (lg_cmp x31 (Int32.toInt64 y27.1)) = 0 then k23 y27.2 b25 b26 v1 v2 v3 (v4 + 4) else some (0) else k23 y27.2 b25 b26 v1 v2 v3 (v4 + 4) else some (0) else if (x2 &&& 31) = 4 then (sL L xs (v4 + 1)).bind fun x34 => (tk bc 1).bind fun b36 => (tk bs 6).bind fun b37 => (f_L_about h v1 x34 v3).bind fun y35 => (sL L xs (v4 + 1)).bind fun x38 => (f_X8_about y35.2 v2 x38).bind fun y39 => (f_X8_thrown y39.2 v2).bind fun y40 => if y40 = y35.1 then if y35.1 = 0 then (aL y39.2 v3 0).bind fun x43 => if (lg_cmp x43 (Int32.toInt64 y39.1)) = 0 then k23 y39.2 b36 b37 v1 v2 v3 (v4 + 4) else some (0) else k23 y39.2 b36 b37 v1 v2 v3 (v4 + 4) else some (0) else if (x2 &&& 31) = 5 then (sL L xs (v4 + 1)).bind fun x46 => (sL L xs (v4 + 2)).bind fun x47 => (tk bc 1).bind fun b49 => (tk bs 6).bind fun b50 => (f_L_get h v1 x46 x47 v3).bind fun y48 => (sL L xs (v4 + 1)).bind fun x51 => (sL L xs (v4 + 2)).bind fun x52 => (f_X8_get y48.2 v2 x51 x52).bind fun y53 => (f_X8_thrown y53.2 v2).bind fun y54 => if y54 = y48.1 then if y48.1 = 0 then (aL y53.2 v3 0).bind fun x57 => if (lg_cmp x57 (Int32.toInt64 y53.1)) = 0 then k23 y53.2 b49 b50 v1 v2 v3 (v4 + 4) else some (0) else k23 y53.2 b49 b50 v1 v2 v3 (v4 + 4) else some (0) else if (x2 &&& 31) = 6 then (sL L xs (v4 + 1)).bind fun x60 => (sL L xs (v4 + 2)).bind fun x61 => (tk bc 1).bind fun b63 => (tk bs 6).bind fun b64 => (f_L_run h v1 x60 x61 v3).bind fun y62 => (sL L xs (v4 + 1)).bind fun x65 => (sL L xs (v4 + 2)).bind fun x66 => (f_X8_run y62.2 v2 x65 x66).bind fun y67 => (f_X8_thrown y67.2 v2).bind fun y68 => if y68 = y62.1 then if y62.1 = 0 then (aL y67.2 v3 0).bind fun x71 => if (lg_cmp x71 (Int32.toInt64 y67.1)) = 0 then k23 y67.2 b63 b64 v1 v2 v3 (v4 + 4) else some (0) else k23 y67.2 b63 b64 v1 v2 v3 (v4 + 4) else some (0) else if (x2 &&& 31) = 7 then (sL L xs (v4 + 1)).bind fun x74 => (sL L xs (v4 + 2)).bind fun x75 => (sL L xs (v4 + 3)).bind fun x76 => (tk bc 1).bind fun b78 => (tk bs 6).bind fun b79 => (f_L_write h v1 x74 x75 x76 v3).bind fun y77 => (sL L xs (v4 + 1)).bind fun x80 => (sL L xs (v4 + 2)).bind fun x81 => (sL L xs (v4 + 3)).bind fun x82 => (f_X8_write y77.2 v2 x80 x81 x82).bind fun y83 => (f_X8_thrown y83.2 v2).bind fun y84 => if y84 = y77.1 then if y77.1 = 0 then (aL y83.2 v3 0).bind fun x87 => if (lg_cmp x87 (Int32.toInt64 y83.1)) = 0 then k23 y83.2 b78 b79 v1 v2 v3 (v4 + 4) else some (0) else k23 y83.2 b78 b79 v1 v2 v3 (v4 + 4) else some (0) else if (x2 &&& 31) = 8 then (sL L xs (v4 + 1)).bind fun x90 => (tk bc 1).bind fun b92 => (tk bs 6).bind fun b93 => (f_L_eye h v1 x90 v3).bind fun y91 => (sL L xs (v4 + 1)).bind fun x94 => (f_X8_eye y91.2 v2 x94).bind fun y95 => (f_X8_thrown y95.2 v2).bind fun y96 => if y96 = y91.1 then if y91.1 = 0 then (aL y95.2 v3 0).bind fun x99 => if (lg_cmp x99 (Int32.toInt64 y95.1)) = 0 then k23 y95.2 b92 b93 v1 v2 v3 (v4 + 4) else some (0) else k23 y95.2 b92 b93 v1 v2 v3 (v4 + 4) else some (0) else if (x2 &&& 31) = 9 then (sL L xs (v4 + 1)).bind fun x102 => (sL L xs (v4 + 2)).bind fun x103 => (tk bc 1).bind fun b105 => (tk bs 6).bind fun b106 => (f_L_put h v1 x102 x103 v3).bind fun y104 => (sL L xs (v4 + 1)).bind fun x107 => (sL L xs (v4 + 2)).bind fun x108 => (f_X8_put y104.2 v2 x107 x108).bind fun y109 => (f_X8_thrown y109.2 v2).bind fun y110 => if y110 = y104.1 then if y104.1 = 0 then (aL y109.2 v3 0).bind fun x113 => if (lg_cmp x113 (Int32.toInt64 y109.1)) = 0 then k23 y109.2 b105 b106 v1 v2 v3 (v4 + 4) else some (0) else k23 y109.2 b105 b106 v1 v2 v3 (v4 + 4) else some (0) else if (x2 &&& 31) = 10 then (sL L xs (v4 + 1)).bind fun x116 => (sL L xs (v4 + 2)).bind fun x117 => (tk bc 1).bind fun b119 => (tk bs 6).bind fun b120 => (f_L_bury h v1 x116 x117 v3).bind fun y118 => (sL L xs (v4 + 1)).bind fun x121 => (sL L xs (v4 + 2)).bind fun x122 => (f_X8_bury y118.2 v2 x121 x122).bind fun y123 => (f_X8_thrown y123.2 v2).bind fun y124 => if y124 = y118.1 then if y118.1 = 0 then (aL y123.2 v3 0).bind fun x127 => if (lg_cmp x127 (Int32.toInt64 y123.1)) = 0 then k23 y123.2 b119 b120 v1 v2 v3 (v4 + 4) else some (0) else k23 y123.2 b119 b120 v1 v2 v3 (v4 + 4) else some (0) else if (x2 &&& 31) = 11 then (tk bc 1).bind fun b131 => (tk bs 6).bind fun b132 => (f_L_open h v1 v3).bind fun y130 => (f_X8_open y130.2 v2).bind fun y133 => (f_X8_thrown y133.2 v2).bind fun y134 => if y134 = y130.1 then if y130.1 = 0 then (aL y133.2 v3 0).bind fun x137 => if (lg_cmp x137 (Int32.toInt64 y133.1)) = 0 then k23 y133.2 b131 b132 v1 v2 v3 (v4 + 4) else some (0) else k23 y133.2 b131 b132 v1 v2 v3 (v4 + 4) else some (0) else if (x2 &&& 31) = 12 then (sL L xs (v4 + 1)).bind fun x140 => (tk bc 1).bind fun b142 => (tk bs 6).bind fun b143 => (f_L_close h v1 x140 v3).bind fun y141 => (sL L xs (v4 + 1)).bind fun x144 => (f_X8_close y141.2 v2 x144).bind fun y145 => (f_X8_thrown y145.2 v2).bind fun y146 => if y146 = y141.1 then if y141.1 = 0 then (aL y145.2 v3 0).bind fun x149 => if (lg_cmp x149 (Int32.toInt64 y145.1)) = 0 then k23 y145.2 b142 b143 v1 v2 v3 (v4 + 4) else some (0) else k23 y145.2 b142 b143 v1 v2 v3 (v4 + 4) else some (0) else if (x2 &&& 31) = 13 then (tk bc 1).bind fun b153 => (tk bs 6).bind fun b154 => (f_L_flush h v1 v3).bind fun y152 => (f_X8_flush y152.2 v2).bind fun y155 => (f_X8_thrown y155.2 v2).bind fun y156 => if y156 = y152.1 then if y152.1 = 0 then (aL y155.2 v3 0).bind fun x159 => if (lg_cmp x159 (Int32.toInt64 y155.1)) = 0 then k23 y155.2 b153 b154 v1 v2 v3 (v4 + 4) else some (0) else k23 y155.2 b153 b154 v1 v2 v3 (v4 + 4) else some (0) else if (x2 &&& 31) = 14 then (sL L xs (v4 + 1)).bind fun x162 => (tk bc 1).bind fun b164 => (tk bs 6).bind fun b165 => (f_L_merge h v1 x162 v3).bind fun y163 => (sL L xs (v4 + 1)).bind fun x166 => (f_X8_merge y163.2 v2 x166).bind fun y167 => (f_X8_thrown y167.2 v2).bind fun y168 => if y168 = y163.1 then if y163.1 = 0 then (aL y167.2 v3 0).bind fun x171 => if (lg_cmp x171 (Int32.toInt64 y167.1)) = 0 then k23 y167.2 b164 b165 v1 v2 v3 (v4 + 4) else some (0) else k23 y167.2 b164 b165 v1 v2 v3 (v4 + 4) else some (0) else if (x2 &&& 31) = 15 then (tk bc 1).bind fun b175 => (tk bs 6).bind fun b176 => (f_L_undo h v1 v3).bind fun y174 => (f_X8_undo y174.2 v2).bind fun y177 => (f_X8_thrown y177.2 v2).bind fun y178 => if y178 = y174.1 then if y174.1 = 0 then (aL y177.2 v3 0).bind fun x181 => if (lg_cmp x181 (Int32.toInt64 y177.1)) = 0 then k23 y177.2 b175 b176 v1 v2 v3 (v4 + 4) else some (0) else k23 y177.2 b175 b176 v1 v2 v3 (v4 + 4) else some (0) else if (x2 &&& 31) = 16 then (sL L xs (v4 + 1)).bind fun x184 => (tk bc 1).bind fun b186 => (tk bs 6).bind fun b187 => (f_L_looks h v1 x184 v3).bind fun y185 => (sL L xs (v4 + 1)).bind fun x188 => (f_X8_looks y185.2 v2 x188).bind fun y189 => (f_X8_thrown y189.2 v2).bind fun y190 => if y190 = y185.1 then if y185.1 = 0 then (aL y189.2 v3 0).bind fun x193 => if (lg_cmp x193 (Int32.toInt64 y189.1)) = 0 then k23 y189.2 b186 b187 v1 v2 v3 (v4 + 4) else some (0) else k23 y189.2 b186 b187 v1 v2 v3 (v4 + 4) else some (0) else if (x2 &&& 31) = 17 then (sL L xs (v4 + 1)).bind fun x196 => (sL L xs (v4 + 2)).bind fun x197 => (tk bc 1).bind fun b199 => (tk bs 6).bind fun b200 => (f_L_next h v1 x196 x197 v3).bind fun y198 => (sL L xs (v4 + 1)).bind fun x201 => (sL L xs (v4 + 2)).bind fun x202 => (f_X8_next y198.2 v2 x201 x202).bind fun y203 => (f_X8_thrown y203.2 v2).bind fun y204 => if y204 = y198.1 then if y198.1 = 0 then (aL y203.2 v3 0).bind fun x207 => if (lg_cmp x207 (Int32.toInt64 y203.1)) = 0 then k23 y203.2 b199 b200 v1 v2 v3 (v4 + 4) else some (0) else k23 y203.2 b199 b200 v1 v2 v3 (v4 + 4) else some (0) else if (x2 &&& 31) = 18 then (sL L xs (v4 + 1)).bind fun x210 => (sL L xs (v4 + 2)).bind fun x211 => (sL L xs (v4 + 3)).bind fun x212 => (tk bc 1).bind fun b214 => (tk bs 6).bind fun b215 => (f_L_count h v1 x210 x211 x212 v3).bind fun y213 => (sL L xs (v4 + 1)).bind fun x216 => (sL L xs (v4 + 2)).bind fun x217 => (sL L xs (v4 + 3)).bind fun x218 => (f_X8_count y213.2 v2 x216 x217 x218).bind fun y219 => (f_X8_thrown y219.2 v2).bind fun y220 => if y220 = y213.1 then if y213.1 = 0 then (aL y219.2 v3 0).bind fun x223 => if (lg_cmp x223 (Int32.toInt64 y219.1)) = 0 then k23 y219.2 b214 b215 v1 v2 v3 (v4 + 4) else some (0) else k23 y219.2 b214 b215 v1 v2 v3 (v4 + 4) else some (0) else if (x2 &&& 31) = 19 then (f_X7_hidden h v1).bind fun y226 => (f_X8_hidden h v2).bind fun y227 => if y226 = y227.1 then k23 y227.2 bc bs v1 v2 v3 (v4 + 4) else some (0) else if (x2 &&& 31) = 20 then (sL L xs (v4 + 1)).bind fun x230 => (tk bc 1).bind fun b232 => (tk bs 6).bind fun b233 => (f_L_grave h v1 x230 v3).bind fun y231 => (sL L xs (v4 + 1)).bind fun x234 => (f_X8_grave y231.2 v2 x234).bind fun y235 => (f_X8_thrown y235.2 v2).bind fun y236 => if y236 = y231.1 then if y231.1 = 0 then (aL y235.2 v3 0).bind fun x239 => if (lg_cmp x239 (Int32.toInt64 y235.1)) = 0 then k23 y235.2 b232 b233 v1 v2 v3 (v4 + 4) else some (0) else k23 y235.2 b232 b233 v1 v2 v3 (v4 + 4) else some (0) else if (x2 &&& 31) = 21 then (sL L xs (v4 + 1)).bind fun x242 => (tk bc 1).bind fun b244 => (tk bs 6).bind fun b245 => (f_L_saves h v1 x242 v3).bind fun y243 => (sL L xs (v4 + 1)).bind fun x246 => (f_X8_saves y243.2 v2 x246).bind fun y247 => (f_X8_thrown y247.2 v2).bind fun y248 => if y248 = y243.1 then if y243.1 = 0 then (aL y247.2 v3 0).bind fun x251 => if (lg_cmp x251 (Int32.toInt64 y247.1)) = 0 then k23 y247.2 b244 b245 v1 v2 v3 (v4 + 4) else some (0) else k23 y247.2 b244 b245 v1 v2 v3 (v4 + 4) else some (0) else if (x2 &&& 31) = 22 then (f_X7_best h v1).bind fun y254 => (f_X8_best y254.2 v2).bind fun y255 => if y254.1 = y255.1 then k23 y255.2 bc bs v1 v2 v3 (v4 + 4) else some (0) else if (x2 &&& 31) = 23 then (f_X7_fewest h v1).bind fun y258 => (f_X8_fewest y258.2 v2).bind fun y259 => if y258.1 = y259.1 then k23 y259.2 bc bs v1 v2 v3 (v4 + 4) else some (0) else if (x2 &&& 31) = 24 then (sL L xs (v4 + 1)).bind fun x262 => (sL L xs (v4 + 2)).bind fun x263 => (sL L xs (v4 + 3)).bind fun x264 => (tk bc 1).bind fun b266 => (tk bs 6).bind fun b267 => (f_L_runScript h v1 x262 ((jlshl (Int32.toInt64 x263) 32) ||| ((Int32.toInt64 x264) &&& 4294967295)) v3).bind fun y265 => (sL L xs (v4 + 1)).bind fun x268 => (sL L xs (v4 + 2)).bind fun x269 => (sL L xs (v4 + 3)).bind fun x270 => (f_X8_runScript y265.2 v2 x268 ((jlshl (Int32.toInt64 x269) 32) ||| ((Int32.toInt64 x270) &&& 4294967295))).bind fun y271 => (f_X8_thrown y271.2 v2).bind fun y272 => if y272 = y265.1 then if y265.1 = 0 then (aL y271.2 v3 0).bind fun x275 => if (lg_cmp x275 (Int32.toInt64 y271.1)) = 0 then k23 y271.2 b266 b267 v1 v2 v3 (v4 + 4) else some (0) else k23 y271.2 b266 b267 v1 v2 v3 (v4 + 4) else some (0) else if (x2 &&& 31) = 25 then (sL L xs (v4 + 1)).bind fun x278 => (sL L xs (v4 + 2)).bind fun x279 => (sL L xs (v4 + 3)).bind fun x280 => (tk bc 1).bind fun b282 => (tk bs 6).bind fun b283 => (f_L_simulate h v1 ((jlshl (Int32.toInt64 x278) 32) ||| ((Int32.toInt64 x279) &&& 4294967295)) x280 v3).bind fun y281 => (sL L xs (v4 + 1)).bind fun x284 => (sL L xs (v4 + 2)).bind fun x285 => (sL L xs (v4 + 3)).bind fun x286 => (f_X8_simulate y281.2 v2 ((jlshl (Int32.toInt64 x284) 32) ||| ((Int32.toInt64 x285) &&& 4294967295)) x286).bind fun y287 => (f_X8_thrown y287.2 v2).bind fun y288 => if y288 = y281.1 then if y281.1 = 0 then (aL y287.2 v3 0).bind fun x291 => if (lg_cmp x291 (Int32.toInt64 y287.1)) = 0 then k23 y287.2 b282 b283 v1 v2 v3 (v4 + 4) else some (0) else k23 y287.2 b282 b283 v1 v2 v3 (v4 + 4) else some (0) else if (x2 &&& 31) = 26 then (sL L xs (v4 + 1)).bind fun x294 => (tk bc 1).bind fun b296 => (tk bs 6).bind fun b297 => (f_L_save h v1 x294 v3).bind fun y295 => (sL L xs (v4 + 1)).bind fun x298 => (f_X8_save y295.2 v2 x298).bind fun y299 => (f_X8_thrown y299.2 v2).bind fun y300 => if y300 = y295.1 then if y295.1 = 0 then (aL y299.2 v3 0).bind fun x303 => if (lg_cmp x303 (Int32.toInt64 y299.1)) = 0 then k23 y299.2 b296 b297 v1 v2 v3 (v4 + 4) else some (0) else k23 y299.2 b296 b297 v1 v2 v3 (v4 + 4) else some (0) else if (x2 &&& 31) = 27 then (sL L xs (v4 + 1)).bind fun x306 => (tk bc 1).bind fun b308 => (tk bs 6).bind fun b309 => (f_L_restore h v1 x306 v3).bind fun y307 => (sL L xs (v4 + 1)).bind fun x310 => (f_X8_restore y307.2 v2 x310).bind fun y311 => (f_X8_thrown y311.2 v2).bind fun y312 => if y312 = y307.1 then if y307.1 = 0 then (aL y311.2 v3 0).bind fun x315 => if (lg_cmp x315 (Int32.toInt64 y311.1)) = 0 then k23 y311.2 b308 b309 v1 v2 v3 (v4 + 4) else some (0) else k23 y311.2 b308 b309 v1 v2 v3 (v4 + 4) else some (0) else k23 h bc bs v1 v2 v3 (v4 + 4)
def b_L_law_23 (L : Nat) (xs : Nat → Int32) (v0 : Nat) : Nat → HP → Nat → Nat → Nat → Nat → Nat → Int32 → Option (Int32)
  | 0, _, _, _, _, _, _, _ => none
  | n + 1, h, bc, bs, v1, v2, v3, v4 => c_L_law_23 L xs v0 (b_L_law_23 L xs v0 n) h bc bs v1 v2 v3 v4
def b_L_law_0 (q0 : Nat) (L : Nat) (xs : Nat → Int32) (v0 : Nat) (h : HP) (bc bs : Nat) : Option (Int32) :=
  (tk bc 1).bind fun b2 => (tk bs 7).bind fun b3 => (nwO h q0 7 [.null, .null, .null, .null, .null, .null, .null]).bind fun h1 => (tk b2 310).bind fun b5 => (tk b3 27530).bind fun b6 => (f_X7_init h1 (q0 + 1) q0).bind fun y4 => (tk b5 1).bind fun b8 => (tk b6 17).bind fun b9 => (nwO y4.1 y4.2 8 [.int 0, .null, .null, .null, .int 0, .null, .null, .null, .int 0, .null, .int 0, .null, .int 0, .int 0, .int 0, .int 0, .int 0]).bind fun h7 => (tk b8 8).bind fun b11 => (tk b9 5442).bind fun b12 => (f_X8_init h7 (y4.2 + 1) y4.2).bind fun y10 => (alN b11 b12 1).bind fun b13 => (nwJ y10.1 y10.2 1).bind fun h14 => b_L_law_23 L xs v0 FU h14 b13.1 b13.2 q0 y4.2 y10.2 0
theorem wc_L_law_23 {l : Launch} {X : SCR} {Q : PST} {res : Int32} (hQ : ∀ (h' : HP) (sz' : Nat), Q (.inl (some (.int res))) h' sz') (hlt : l.stackTraces = false) {L : Nat} {xs : Nat → Int32} {v0 : Nat} (hX : X.1 = some (v0, L, xs)) {k23 : HP → Nat → Nat → Nat → Nat → Nat → Int32 → Option (Int32)} (hk23 : ∀ (h : HP) (bc bs : Nat) (v1 : Nat) (v2 : Nat) (v3 : Nat) (v4 : Int32) (sz : Nat), k23 h bc bs v1 v2 v3 v4 = some res → SP l X M_L_law 23 [(0, .ref v0), (1, .ref v1), (2, .ref v2), (3, .ref v3), (4, .int v4)] [] h sz bc bs Q) {h : HP} {bc bs : Nat} {v1 : Nat} {v2 : Nat} {v3 : Nat} {v4 : Int32} {sz : Nat} (hf : c_L_law_23 L xs v0 k23 h bc bs v1 v2 v3 v4 = some res) : SP l X M_L_law 23 [(0, .ref v0), (1, .ref v1), (2, .ref v2), (3, .ref v3), (4, .int v4)] [] h sz bc bs Q := by
  rw [c_L_law_23] at hf
  refine sp_iload (pc := 23) dL_law_23 4 rfl ?_
  refine sp_aload_n (pc := 25) dL_law_25 0 rfl ?_
  refine sp_slen (pc := 26) hX dL_law_26 ?_
  refine sp_iconst (pc := 27) (v := 4) dL_law_27 (by decide) ?_
  refine sp_isub (pc := 28) dL_law_28 ?_
  refine sp_icmp_gt (pc := 29) (tgt := 1671) dL_law_29 (by decide) (fun c1 => ?_) (fun c1 => ?_)
  · rw [if_pos c1] at hf
    refine sp_iconst (pc := 1671) (v := 1) dL_law_1671 (by decide) ?_
    obtain rfl := Option.some.inj hf
    exact sp_ireturn (pc := 1672) dL_law_1672 rfl rfl (hQ _ _)
  · rw [if_neg c1] at hf
    refine sp_aload_n (pc := 32) dL_law_32 0 rfl ?_
    refine sp_iload (pc := 33) dL_law_33 4 rfl ?_
    obtain ⟨x2, ex2, hf⟩ := ob hf
    obtain ⟨g1x2, g2x2⟩ := sL_spec ex2
    refine sp_sld (pc := 35) hX dL_law_35 g1x2 ?_
    rw [g2x2]
    refine sp_bipush (pc := 36) (v := 31) dL_law_36 (by decide) ?_
    refine sp_iand (pc := 38) dL_law_38 ?_
    by_cases c3 : (x2 &&& 31) = 0
    · rw [if_pos c3] at hf
      refine sp_tableIn (pc := 39) (off := 125) (tgt := 164) dL_law_39 (by rw [c3]; decide) (by rw [c3]; decide) (by rw [c3]; rfl) (by decide) ?_
      refine sp_aload_n (pc := 164) dL_law_164 1 rfl ?_
      refine sp_aload_n (pc := 165) dL_law_165 0 rfl ?_
      refine sp_iload (pc := 166) dL_law_166 4 rfl ?_
      refine sp_iconst (pc := 168) (v := 1) dL_law_168 (by decide) ?_
      refine sp_iadd (pc := 169) dL_law_169 ?_
      obtain ⟨x4, ex4, hf⟩ := ob hf
      obtain ⟨g1x4, g2x4⟩ := sL_spec ex4
      refine sp_sld (pc := 170) hX dL_law_170 g1x4 ?_
      rw [g2x4]
      refine sp_aload_n (pc := 171) dL_law_171 3 rfl ?_
      obtain ⟨b6, eb6, hf⟩ := ob hf
      obtain ⟨b7, eb7, hf⟩ := ob hf
      obtain ⟨y5, ey5, hf⟩ := ob hf
      refine sp_callW (pc := 172) (hh9 := [(0, 9, 12, 13), (0, 9, 15, 15)]) (z := M_L_append) (As := [.ref v1, .int x4, .ref v3]) (bc2 := b6) (bs2 := b7) (m_L_append (Q := _) (fun sz => ⟨y5.1, rfl, ?_⟩) hlt ey5) dL_law_172 rfl bk_470 ck_L_law_94 (Nat.le_of_ble_eq_true rfl) (tk_spec eb6) (tk_spec eb7) rfl
      refine sp_istore (pc := 175) (lv' := [(5, .int y5.1), (0, .ref v0), (1, .ref v1), (2, .ref v2), (3, .ref v3), (4, .int v4)]) dL_law_175 (by decide) rfl ?_
      refine sp_aload_n (pc := 177) dL_law_177 3 rfl ?_
      refine sp_aload_n (pc := 178) dL_law_178 1 rfl ?_
      refine sp_iload (pc := 179) dL_law_179 5 rfl ?_
      refine sp_iconst (pc := 181) (v := 1) dL_law_181 (by decide) ?_
      refine sp_iadd (pc := 182) dL_law_182 ?_
      obtain ⟨x8, ex8, hf⟩ := ob hf
      obtain ⟨g1x8, g2x8⟩ := sL_spec ex8
      refine sp_sld (pc := 183) hX dL_law_183 g1x8 ?_
      rw [g2x8]
      obtain ⟨y9, ey9, hf⟩ := ob hf
      obtain ⟨fsy9, hoy9⟩ := o_X8_append ey9
      refine sp_callVi (pc := 184) (z := M_X8_append) (As := [.int x8]) (b := v2) (bc2 := b6) (bs2 := b7) (m_X8_append (Q := _) (fun sz => ⟨y9.1, rfl, ?_⟩) ey9) rfl dL_law_184 hoy9 rfl rfl ck_L_law_99 (Nat.le_of_ble_eq_true rfl) rfl rfl rfl
      refine sp_istore (pc := 187) (lv' := [(6, .int y9.1), (5, .int y5.1), (0, .ref v0), (1, .ref v1), (2, .ref v2), (3, .ref v3), (4, .int v4)]) dL_law_187 (by decide) rfl ?_
      refine sp_aload_n (pc := 189) dL_law_189 4 rfl ?_
      obtain ⟨y10, ey10, hf⟩ := ob hf
      obtain ⟨fsy10, hoy10⟩ := o_X8_thrown ey10
      refine sp_callVi (pc := 190) (z := M_X8_thrown) (As := []) (b := v2) (bc2 := b6) (bs2 := b7) (m_X8_thrown (Q := _) (fun sz => ⟨y10, rfl, ?_⟩) ey10) rfl dL_law_190 hoy10 rfl rfl ck_L_law_100 (Nat.le_of_ble_eq_true rfl) rfl rfl rfl
      refine sp_iload (pc := 193) dL_law_193 1 rfl ?_
      refine sp_icmp_eq (pc := 195) (tgt := 200) dL_law_195 (by decide) (fun c11 => ?_) (fun c11 => ?_)
      · rw [if_pos c11] at hf
        refine sp_iload (pc := 200) dL_law_200 1 rfl ?_
        refine sp_if_ne (pc := 202) (tgt := 217) dL_law_202 (by decide) (fun c12 => ?_) (fun c12 => ?_)
        · rw [if_neg c12] at hf
          refine sp_goto (pc := 217) (tgt := 1665) dL_law_217 (by decide) ?_
          refine sp_iinc (pc := 1665) (v := v4 + 4) (lv' := [(4, .int (v4 + 4)), (6, .int y9.1), (5, .int y5.1), (0, .ref v0), (1, .ref v1), (2, .ref v2), (3, .ref v3)]) dL_law_1665 6 rfl rfl (by decide) rfl ?_
          refine sp_goto (pc := 1668) (tgt := 23) dL_law_1668 (by decide) ?_
          exact sp_sub [3, 4, 5, 6, 0] rfl (hk23 _ _ _ _ _ _ _ _ hf)
        · rw [if_pos c12] at hf
          refine sp_aload_n (pc := 205) dL_law_205 5 rfl ?_
          refine sp_iconst (pc := 206) (v := 0) dL_law_206 (by decide) ?_
          obtain ⟨x13, ex13, hf⟩ := ob hf
          refine sp_aL (pc := 207) dL_law_207 ex13 ?_
          refine sp_iload (pc := 208) dL_law_208 0 rfl ?_
          refine sp_i2l (pc := 210) dL_law_210 ?_
          refine sp_lcmp (pc := 211) dL_law_211 ?_
          refine sp_if_eq (pc := 212) (tgt := 217) dL_law_212 (by decide) (fun c14 => ?_) (fun c14 => ?_)
          · rw [if_pos c14] at hf
            refine sp_goto (pc := 217) (tgt := 1665) dL_law_217 (by decide) ?_
            refine sp_iinc (pc := 1665) (v := v4 + 4) (lv' := [(4, .int (v4 + 4)), (6, .int y9.1), (5, .int y5.1), (0, .ref v0), (1, .ref v1), (2, .ref v2), (3, .ref v3)]) dL_law_1665 6 rfl rfl (by decide) rfl ?_
            refine sp_goto (pc := 1668) (tgt := 23) dL_law_1668 (by decide) ?_
            exact sp_sub [3, 4, 5, 6, 0] rfl (hk23 _ _ _ _ _ _ _ _ hf)
          · rw [if_neg c14] at hf
            refine sp_iconst (pc := 215) (v := 0) dL_law_215 (by decide) ?_
            obtain rfl := Option.some.inj hf
            exact sp_ireturn (pc := 216) dL_law_216 rfl rfl (hQ _ _)
      · rw [if_neg c11] at hf
        refine sp_iconst (pc := 198) (v := 0) dL_law_198 (by decide) ?_
        obtain rfl := Option.some.inj hf
        exact sp_ireturn (pc := 199) dL_law_199 rfl rfl (hQ _ _)
    rw [if_neg c3] at hf
    by_cases c15 : (x2 &&& 31) = 1
    · rw [if_pos c15] at hf
      refine sp_tableIn (pc := 39) (off := 181) (tgt := 220) dL_law_39 (by rw [c15]; decide) (by rw [c15]; decide) (by rw [c15]; rfl) (by decide) ?_
      refine sp_aload_n (pc := 220) dL_law_220 1 rfl ?_
      obtain ⟨y16, ey16, hf⟩ := ob hf
      obtain ⟨fsy16, hoy16⟩ := o_X7_clearText ey16
      refine sp_callVi (pc := 221) (z := M_X7_clearText) (As := []) (b := v1) (bc2 := bc) (bs2 := bs) (m_X7_clearText (Q := _) (fun sz => ⟨y16.1, rfl, ?_⟩) ey16) rfl dL_law_221 hoy16 rfl rfl ck_L_law_103 (Nat.le_of_ble_eq_true rfl) rfl rfl rfl
      refine sp_aload_n (pc := 224) dL_law_224 2 rfl ?_
      obtain ⟨y17, ey17, hf⟩ := ob hf
      obtain ⟨fsy17, hoy17⟩ := o_X8_clearText ey17
      refine sp_callVi (pc := 225) (z := M_X8_clearText) (As := []) (b := v2) (bc2 := bc) (bs2 := bs) (m_X8_clearText (Q := _) (fun sz => ⟨y17.1, rfl, ?_⟩) ey17) rfl dL_law_225 hoy17 rfl rfl ck_L_law_106 (Nat.le_of_ble_eq_true rfl) rfl rfl rfl
      refine sp_icmp_eq (pc := 228) (tgt := 1665) dL_law_228 (by decide) (fun c18 => ?_) (fun c18 => ?_)
      · rw [if_pos c18] at hf
        refine sp_iinc (pc := 1665) (v := v4 + 4) (lv' := [(4, .int (v4 + 4)), (0, .ref v0), (1, .ref v1), (2, .ref v2), (3, .ref v3)]) dL_law_1665 4 rfl rfl (by decide) rfl ?_
        refine sp_goto (pc := 1668) (tgt := 23) dL_law_1668 (by decide) ?_
        exact sp_sub [1, 2, 3, 4, 0] rfl (hk23 _ _ _ _ _ _ _ _ hf)
      · rw [if_neg c18] at hf
        refine sp_iconst (pc := 231) (v := 0) dL_law_231 (by decide) ?_
        obtain rfl := Option.some.inj hf
        exact sp_ireturn (pc := 232) dL_law_232 rfl rfl (hQ _ _)
    rw [if_neg c15] at hf
    by_cases c19 : (x2 &&& 31) = 2
    · rw [if_pos c19] at hf
      refine sp_tableIn (pc := 39) (off := 194) (tgt := 233) dL_law_39 (by rw [c19]; decide) (by rw [c19]; decide) (by rw [c19]; rfl) (by decide) ?_
      refine sp_aload_n (pc := 233) dL_law_233 1 rfl ?_
      obtain ⟨y20, ey20, hf⟩ := ob hf
      obtain ⟨fsy20, hoy20⟩ := o_X7_errorPosition ey20
      refine sp_callVi (pc := 234) (z := M_X7_errorPosition) (As := []) (b := v1) (bc2 := bc) (bs2 := bs) (m_X7_errorPosition (Q := _) (fun sz => ⟨y20, rfl, ?_⟩) ey20) rfl dL_law_234 hoy20 rfl rfl ck_L_law_107 (Nat.le_of_ble_eq_true rfl) rfl rfl rfl
      refine sp_aload_n (pc := 237) dL_law_237 2 rfl ?_
      obtain ⟨y21, ey21, hf⟩ := ob hf
      obtain ⟨fsy21, hoy21⟩ := o_X8_errorPosition ey21
      refine sp_callVi (pc := 238) (z := M_X8_errorPosition) (As := []) (b := v2) (bc2 := bc) (bs2 := bs) (m_X8_errorPosition (Q := _) (fun sz => ⟨y21.1, rfl, ?_⟩) ey21) rfl dL_law_238 hoy21 rfl rfl ck_L_law_110 (Nat.le_of_ble_eq_true rfl) rfl rfl rfl
      refine sp_icmp_eq (pc := 241) (tgt := 1665) dL_law_241 (by decide) (fun c22 => ?_) (fun c22 => ?_)
      · rw [if_pos c22] at hf
        refine sp_iinc (pc := 1665) (v := v4 + 4) (lv' := [(4, .int (v4 + 4)), (0, .ref v0), (1, .ref v1), (2, .ref v2), (3, .ref v3)]) dL_law_1665 4 rfl rfl (by decide) rfl ?_
        refine sp_goto (pc := 1668) (tgt := 23) dL_law_1668 (by decide) ?_
        exact sp_sub [1, 2, 3, 4, 0] rfl (hk23 _ _ _ _ _ _ _ _ hf)
      · rw [if_neg c22] at hf
        refine sp_iconst (pc := 244) (v := 0) dL_law_244 (by decide) ?_
        obtain rfl := Option.some.inj hf
        exact sp_ireturn (pc := 245) dL_law_245 rfl rfl (hQ _ _)
    rw [if_neg c19] at hf
    by_cases c23 : (x2 &&& 31) = 3
    · rw [if_pos c23] at hf
      refine sp_tableIn (pc := 39) (off := 207) (tgt := 246) dL_law_39 (by rw [c23]; decide) (by rw [c23]; decide) (by rw [c23]; rfl) (by decide) ?_
      refine sp_aload_n (pc := 246) dL_law_246 1 rfl ?_
      refine sp_aload_n (pc := 247) dL_law_247 3 rfl ?_
      obtain ⟨b25, eb25, hf⟩ := ob hf
      obtain ⟨b26, eb26, hf⟩ := ob hf
      obtain ⟨y24, ey24, hf⟩ := ob hf
      refine sp_callW (pc := 248) (hh9 := [(0, 8, 11, 15)]) (z := M_L_load) (As := [.ref v1, .ref v3]) (bc2 := b25) (bs2 := b26) (m_L_load (Q := _) (fun sz => ⟨y24.1, rfl, ?_⟩) hlt ey24) dL_law_248 rfl bk_571 ck_L_law_111 (Nat.le_of_ble_eq_true rfl) (tk_spec eb25) (tk_spec eb26) rfl
      refine sp_istore (pc := 251) (lv' := [(5, .int y24.1), (0, .ref v0), (1, .ref v1), (2, .ref v2), (3, .ref v3), (4, .int v4)]) dL_law_251 (by decide) rfl ?_
      refine sp_aload_n (pc := 253) dL_law_253 3 rfl ?_
      obtain ⟨y27, ey27, hf⟩ := ob hf
      obtain ⟨fsy27, hoy27⟩ := o_X8_load ey27
      refine sp_callVi (pc := 254) (z := M_X8_load) (As := []) (b := v2) (bc2 := b25) (bs2 := b26) (m_X8_load (Q := _) (fun sz => ⟨y27.1, rfl, ?_⟩) ey27) rfl dL_law_254 hoy27 rfl rfl ck_L_law_114 (Nat.le_of_ble_eq_true rfl) rfl rfl rfl
      refine sp_istore (pc := 257) (lv' := [(6, .int y27.1), (5, .int y24.1), (0, .ref v0), (1, .ref v1), (2, .ref v2), (3, .ref v3), (4, .int v4)]) dL_law_257 (by decide) rfl ?_
      refine sp_aload_n (pc := 259) dL_law_259 4 rfl ?_
      obtain ⟨y28, ey28, hf⟩ := ob hf
      obtain ⟨fsy28, hoy28⟩ := o_X8_thrown ey28
      refine sp_callVi (pc := 260) (z := M_X8_thrown) (As := []) (b := v2) (bc2 := b25) (bs2 := b26) (m_X8_thrown (Q := _) (fun sz => ⟨y28, rfl, ?_⟩) ey28) rfl dL_law_260 hoy28 rfl rfl ck_L_law_100 (Nat.le_of_ble_eq_true rfl) rfl rfl rfl
      refine sp_iload (pc := 263) dL_law_263 1 rfl ?_
      refine sp_icmp_eq (pc := 265) (tgt := 270) dL_law_265 (by decide) (fun c29 => ?_) (fun c29 => ?_)
      · rw [if_pos c29] at hf
        refine sp_iload (pc := 270) dL_law_270 1 rfl ?_
        refine sp_if_ne (pc := 272) (tgt := 287) dL_law_272 (by decide) (fun c30 => ?_) (fun c30 => ?_)
        · rw [if_neg c30] at hf
          refine sp_goto (pc := 287) (tgt := 1665) dL_law_287 (by decide) ?_
          refine sp_iinc (pc := 1665) (v := v4 + 4) (lv' := [(4, .int (v4 + 4)), (6, .int y27.1), (5, .int y24.1), (0, .ref v0), (1, .ref v1), (2, .ref v2), (3, .ref v3)]) dL_law_1665 6 rfl rfl (by decide) rfl ?_
          refine sp_goto (pc := 1668) (tgt := 23) dL_law_1668 (by decide) ?_
          exact sp_sub [3, 4, 5, 6, 0] rfl (hk23 _ _ _ _ _ _ _ _ hf)
        · rw [if_pos c30] at hf
          refine sp_aload_n (pc := 275) dL_law_275 5 rfl ?_
          refine sp_iconst (pc := 276) (v := 0) dL_law_276 (by decide) ?_
          obtain ⟨x31, ex31, hf⟩ := ob hf
          refine sp_aL (pc := 277) dL_law_277 ex31 ?_
          refine sp_iload (pc := 278) dL_law_278 0 rfl ?_
          refine sp_i2l (pc := 280) dL_law_280 ?_
          refine sp_lcmp (pc := 281) dL_law_281 ?_
          refine sp_if_eq (pc := 282) (tgt := 287) dL_law_282 (by decide) (fun c32 => ?_) (fun c32 => ?_)
          · rw [if_pos c32] at hf
            refine sp_goto (pc := 287) (tgt := 1665) dL_law_287 (by decide) ?_
            refine sp_iinc (pc := 1665) (v := v4 + 4) (lv' := [(4, .int (v4 + 4)), (6, .int y27.1), (5, .int y24.1), (0, .ref v0), (1, .ref v1), (2, .ref v2), (3, .ref v3)]) dL_law_1665 6 rfl rfl (by decide) rfl ?_
            refine sp_goto (pc := 1668) (tgt := 23) dL_law_1668 (by decide) ?_
            exact sp_sub [3, 4, 5, 6, 0] rfl (hk23 _ _ _ _ _ _ _ _ hf)
          · rw [if_neg c32] at hf
            refine sp_iconst (pc := 285) (v := 0) dL_law_285 (by decide) ?_
            obtain rfl := Option.some.inj hf
            exact sp_ireturn (pc := 286) dL_law_286 rfl rfl (hQ _ _)
      · rw [if_neg c29] at hf
        refine sp_iconst (pc := 268) (v := 0) dL_law_268 (by decide) ?_
        obtain rfl := Option.some.inj hf
        exact sp_ireturn (pc := 269) dL_law_269 rfl rfl (hQ _ _)
    rw [if_neg c23] at hf
    by_cases c33 : (x2 &&& 31) = 4
    · rw [if_pos c33] at hf
      refine sp_tableIn (pc := 39) (off := 251) (tgt := 290) dL_law_39 (by rw [c33]; decide) (by rw [c33]; decide) (by rw [c33]; rfl) (by decide) ?_
      refine sp_aload_n (pc := 290) dL_law_290 1 rfl ?_
      refine sp_aload_n (pc := 291) dL_law_291 0 rfl ?_
      refine sp_iload (pc := 292) dL_law_292 4 rfl ?_
      refine sp_iconst (pc := 294) (v := 1) dL_law_294 (by decide) ?_
      refine sp_iadd (pc := 295) dL_law_295 ?_
      obtain ⟨x34, ex34, hf⟩ := ob hf
      obtain ⟨g1x34, g2x34⟩ := sL_spec ex34
      refine sp_sld (pc := 296) hX dL_law_296 g1x34 ?_
      rw [g2x34]
      refine sp_aload_n (pc := 297) dL_law_297 3 rfl ?_
      obtain ⟨b36, eb36, hf⟩ := ob hf
      obtain ⟨b37, eb37, hf⟩ := ob hf
      obtain ⟨y35, ey35, hf⟩ := ob hf
      refine sp_callW (pc := 298) (hh9 := [(0, 9, 12, 13)]) (z := M_L_about) (As := [.ref v1, .int x34, .ref v3]) (bc2 := b36) (bs2 := b37) (m_L_about (Q := _) (fun sz => ⟨y35.1, rfl, ?_⟩) hlt ey35) dL_law_298 rfl bk_653 ck_L_law_115 (Nat.le_of_ble_eq_true rfl) (tk_spec eb36) (tk_spec eb37) rfl
      refine sp_istore (pc := 301) (lv' := [(5, .int y35.1), (0, .ref v0), (1, .ref v1), (2, .ref v2), (3, .ref v3), (4, .int v4)]) dL_law_301 (by decide) rfl ?_
      refine sp_aload_n (pc := 303) dL_law_303 3 rfl ?_
      refine sp_aload_n (pc := 304) dL_law_304 1 rfl ?_
      refine sp_iload (pc := 305) dL_law_305 5 rfl ?_
      refine sp_iconst (pc := 307) (v := 1) dL_law_307 (by decide) ?_
      refine sp_iadd (pc := 308) dL_law_308 ?_
      obtain ⟨x38, ex38, hf⟩ := ob hf
      obtain ⟨g1x38, g2x38⟩ := sL_spec ex38
      refine sp_sld (pc := 309) hX dL_law_309 g1x38 ?_
      rw [g2x38]
      obtain ⟨y39, ey39, hf⟩ := ob hf
      obtain ⟨fsy39, hoy39⟩ := o_X8_about ey39
      refine sp_callVi (pc := 310) (z := M_X8_about) (As := [.int x38]) (b := v2) (bc2 := b36) (bs2 := b37) (m_X8_about (Q := _) (fun sz => ⟨y39.1, rfl, ?_⟩) ey39) rfl dL_law_310 hoy39 rfl rfl ck_L_law_117 (Nat.le_of_ble_eq_true rfl) rfl rfl rfl
      refine sp_istore (pc := 313) (lv' := [(6, .int y39.1), (5, .int y35.1), (0, .ref v0), (1, .ref v1), (2, .ref v2), (3, .ref v3), (4, .int v4)]) dL_law_313 (by decide) rfl ?_
      refine sp_aload_n (pc := 315) dL_law_315 4 rfl ?_
      obtain ⟨y40, ey40, hf⟩ := ob hf
      obtain ⟨fsy40, hoy40⟩ := o_X8_thrown ey40
      refine sp_callVi (pc := 316) (z := M_X8_thrown) (As := []) (b := v2) (bc2 := b36) (bs2 := b37) (m_X8_thrown (Q := _) (fun sz => ⟨y40, rfl, ?_⟩) ey40) rfl dL_law_316 hoy40 rfl rfl ck_L_law_100 (Nat.le_of_ble_eq_true rfl) rfl rfl rfl
      refine sp_iload (pc := 319) dL_law_319 1 rfl ?_
      refine sp_icmp_eq (pc := 321) (tgt := 326) dL_law_321 (by decide) (fun c41 => ?_) (fun c41 => ?_)
      · rw [if_pos c41] at hf
        refine sp_iload (pc := 326) dL_law_326 1 rfl ?_
        refine sp_if_ne (pc := 328) (tgt := 343) dL_law_328 (by decide) (fun c42 => ?_) (fun c42 => ?_)
        · rw [if_neg c42] at hf
          refine sp_goto (pc := 343) (tgt := 1665) dL_law_343 (by decide) ?_
          refine sp_iinc (pc := 1665) (v := v4 + 4) (lv' := [(4, .int (v4 + 4)), (6, .int y39.1), (5, .int y35.1), (0, .ref v0), (1, .ref v1), (2, .ref v2), (3, .ref v3)]) dL_law_1665 6 rfl rfl (by decide) rfl ?_
          refine sp_goto (pc := 1668) (tgt := 23) dL_law_1668 (by decide) ?_
          exact sp_sub [3, 4, 5, 6, 0] rfl (hk23 _ _ _ _ _ _ _ _ hf)
        · rw [if_pos c42] at hf
          refine sp_aload_n (pc := 331) dL_law_331 5 rfl ?_
          refine sp_iconst (pc := 332) (v := 0) dL_law_332 (by decide) ?_
          obtain ⟨x43, ex43, hf⟩ := ob hf
          refine sp_aL (pc := 333) dL_law_333 ex43 ?_
          refine sp_iload (pc := 334) dL_law_334 0 rfl ?_
          refine sp_i2l (pc := 336) dL_law_336 ?_
          refine sp_lcmp (pc := 337) dL_law_337 ?_
          refine sp_if_eq (pc := 338) (tgt := 343) dL_law_338 (by decide) (fun c44 => ?_) (fun c44 => ?_)
          · rw [if_pos c44] at hf
            refine sp_goto (pc := 343) (tgt := 1665) dL_law_343 (by decide) ?_
            refine sp_iinc (pc := 1665) (v := v4 + 4) (lv' := [(4, .int (v4 + 4)), (6, .int y39.1), (5, .int y35.1), (0, .ref v0), (1, .ref v1), (2, .ref v2), (3, .ref v3)]) dL_law_1665 6 rfl rfl (by decide) rfl ?_
            refine sp_goto (pc := 1668) (tgt := 23) dL_law_1668 (by decide) ?_
            exact sp_sub [3, 4, 5, 6, 0] rfl (hk23 _ _ _ _ _ _ _ _ hf)
          · rw [if_neg c44] at hf
            refine sp_iconst (pc := 341) (v := 0) dL_law_341 (by decide) ?_
            obtain rfl := Option.some.inj hf
            exact sp_ireturn (pc := 342) dL_law_342 rfl rfl (hQ _ _)
      · rw [if_neg c41] at hf
        refine sp_iconst (pc := 324) (v := 0) dL_law_324 (by decide) ?_
        obtain rfl := Option.some.inj hf
        exact sp_ireturn (pc := 325) dL_law_325 rfl rfl (hQ _ _)
    rw [if_neg c33] at hf
    by_cases c45 : (x2 &&& 31) = 5
    · rw [if_pos c45] at hf
      refine sp_tableIn (pc := 39) (off := 307) (tgt := 346) dL_law_39 (by rw [c45]; decide) (by rw [c45]; decide) (by rw [c45]; rfl) (by decide) ?_
      refine sp_aload_n (pc := 346) dL_law_346 1 rfl ?_
      refine sp_aload_n (pc := 347) dL_law_347 0 rfl ?_
      refine sp_iload (pc := 348) dL_law_348 4 rfl ?_
      refine sp_iconst (pc := 350) (v := 1) dL_law_350 (by decide) ?_
      refine sp_iadd (pc := 351) dL_law_351 ?_
      obtain ⟨x46, ex46, hf⟩ := ob hf
      obtain ⟨g1x46, g2x46⟩ := sL_spec ex46
      refine sp_sld (pc := 352) hX dL_law_352 g1x46 ?_
      rw [g2x46]
      refine sp_aload_n (pc := 353) dL_law_353 0 rfl ?_
      refine sp_iload (pc := 354) dL_law_354 4 rfl ?_
      refine sp_iconst (pc := 356) (v := 2) dL_law_356 (by decide) ?_
      refine sp_iadd (pc := 357) dL_law_357 ?_
      obtain ⟨x47, ex47, hf⟩ := ob hf
      obtain ⟨g1x47, g2x47⟩ := sL_spec ex47
      refine sp_sld (pc := 358) hX dL_law_358 g1x47 ?_
      rw [g2x47]
      refine sp_aload_n (pc := 359) dL_law_359 3 rfl ?_
      obtain ⟨b49, eb49, hf⟩ := ob hf
      obtain ⟨b50, eb50, hf⟩ := ob hf
      obtain ⟨y48, ey48, hf⟩ := ob hf
      refine sp_callW (pc := 360) (hh9 := [(0, 10, 13, 28)]) (z := M_L_get) (As := [.ref v1, .int x46, .int x47, .ref v3]) (bc2 := b49) (bs2 := b50) (m_L_get (Q := _) (fun sz => ⟨y48.1, rfl, ?_⟩) hlt ey48) dL_law_360 rfl bk_703 ck_L_law_118 (Nat.le_of_ble_eq_true rfl) (tk_spec eb49) (tk_spec eb50) rfl
      refine sp_istore (pc := 363) (lv' := [(5, .int y48.1), (0, .ref v0), (1, .ref v1), (2, .ref v2), (3, .ref v3), (4, .int v4)]) dL_law_363 (by decide) rfl ?_
      refine sp_aload_n (pc := 365) dL_law_365 3 rfl ?_
      refine sp_aload_n (pc := 366) dL_law_366 1 rfl ?_
      refine sp_iload (pc := 367) dL_law_367 5 rfl ?_
      refine sp_iconst (pc := 369) (v := 1) dL_law_369 (by decide) ?_
      refine sp_iadd (pc := 370) dL_law_370 ?_
      obtain ⟨x51, ex51, hf⟩ := ob hf
      obtain ⟨g1x51, g2x51⟩ := sL_spec ex51
      refine sp_sld (pc := 371) hX dL_law_371 g1x51 ?_
      rw [g2x51]
      refine sp_aload_n (pc := 372) dL_law_372 1 rfl ?_
      refine sp_iload (pc := 373) dL_law_373 5 rfl ?_
      refine sp_iconst (pc := 375) (v := 2) dL_law_375 (by decide) ?_
      refine sp_iadd (pc := 376) dL_law_376 ?_
      obtain ⟨x52, ex52, hf⟩ := ob hf
      obtain ⟨g1x52, g2x52⟩ := sL_spec ex52
      refine sp_sld (pc := 377) hX dL_law_377 g1x52 ?_
      rw [g2x52]
      obtain ⟨y53, ey53, hf⟩ := ob hf
      obtain ⟨fsy53, hoy53⟩ := o_X8_get ey53
      refine sp_callVi (pc := 378) (z := M_X8_get) (As := [.int x51, .int x52]) (b := v2) (bc2 := b49) (bs2 := b50) (m_X8_get (Q := _) (fun sz => ⟨y53.1, rfl, ?_⟩) ey53) rfl dL_law_378 hoy53 rfl rfl ck_L_law_121 (Nat.le_of_ble_eq_true rfl) rfl rfl rfl
      refine sp_istore (pc := 381) (lv' := [(6, .int y53.1), (5, .int y48.1), (0, .ref v0), (1, .ref v1), (2, .ref v2), (3, .ref v3), (4, .int v4)]) dL_law_381 (by decide) rfl ?_
      refine sp_aload_n (pc := 383) dL_law_383 4 rfl ?_
      obtain ⟨y54, ey54, hf⟩ := ob hf
      obtain ⟨fsy54, hoy54⟩ := o_X8_thrown ey54
      refine sp_callVi (pc := 384) (z := M_X8_thrown) (As := []) (b := v2) (bc2 := b49) (bs2 := b50) (m_X8_thrown (Q := _) (fun sz => ⟨y54, rfl, ?_⟩) ey54) rfl dL_law_384 hoy54 rfl rfl ck_L_law_100 (Nat.le_of_ble_eq_true rfl) rfl rfl rfl
      refine sp_iload (pc := 387) dL_law_387 1 rfl ?_
      refine sp_icmp_eq (pc := 389) (tgt := 394) dL_law_389 (by decide) (fun c55 => ?_) (fun c55 => ?_)
      · rw [if_pos c55] at hf
        refine sp_iload (pc := 394) dL_law_394 1 rfl ?_
        refine sp_if_ne (pc := 396) (tgt := 411) dL_law_396 (by decide) (fun c56 => ?_) (fun c56 => ?_)
        · rw [if_neg c56] at hf
          refine sp_goto (pc := 411) (tgt := 1665) dL_law_411 (by decide) ?_
          refine sp_iinc (pc := 1665) (v := v4 + 4) (lv' := [(4, .int (v4 + 4)), (6, .int y53.1), (5, .int y48.1), (0, .ref v0), (1, .ref v1), (2, .ref v2), (3, .ref v3)]) dL_law_1665 6 rfl rfl (by decide) rfl ?_
          refine sp_goto (pc := 1668) (tgt := 23) dL_law_1668 (by decide) ?_
          exact sp_sub [3, 4, 5, 6, 0] rfl (hk23 _ _ _ _ _ _ _ _ hf)
        · rw [if_pos c56] at hf
          refine sp_aload_n (pc := 399) dL_law_399 5 rfl ?_
          refine sp_iconst (pc := 400) (v := 0) dL_law_400 (by decide) ?_
          obtain ⟨x57, ex57, hf⟩ := ob hf
          refine sp_aL (pc := 401) dL_law_401 ex57 ?_
          refine sp_iload (pc := 402) dL_law_402 0 rfl ?_
          refine sp_i2l (pc := 404) dL_law_404 ?_
          refine sp_lcmp (pc := 405) dL_law_405 ?_
          refine sp_if_eq (pc := 406) (tgt := 411) dL_law_406 (by decide) (fun c58 => ?_) (fun c58 => ?_)
          · rw [if_pos c58] at hf
            refine sp_goto (pc := 411) (tgt := 1665) dL_law_411 (by decide) ?_
            refine sp_iinc (pc := 1665) (v := v4 + 4) (lv' := [(4, .int (v4 + 4)), (6, .int y53.1), (5, .int y48.1), (0, .ref v0), (1, .ref v1), (2, .ref v2), (3, .ref v3)]) dL_law_1665 6 rfl rfl (by decide) rfl ?_
            refine sp_goto (pc := 1668) (tgt := 23) dL_law_1668 (by decide) ?_
            exact sp_sub [3, 4, 5, 6, 0] rfl (hk23 _ _ _ _ _ _ _ _ hf)
          · rw [if_neg c58] at hf
            refine sp_iconst (pc := 409) (v := 0) dL_law_409 (by decide) ?_
            obtain rfl := Option.some.inj hf
            exact sp_ireturn (pc := 410) dL_law_410 rfl rfl (hQ _ _)
      · rw [if_neg c55] at hf
        refine sp_iconst (pc := 392) (v := 0) dL_law_392 (by decide) ?_
        obtain rfl := Option.some.inj hf
        exact sp_ireturn (pc := 393) dL_law_393 rfl rfl (hQ _ _)
    rw [if_neg c45] at hf
    by_cases c59 : (x2 &&& 31) = 6
    · rw [if_pos c59] at hf
      refine sp_tableIn (pc := 39) (off := 375) (tgt := 414) dL_law_39 (by rw [c59]; decide) (by rw [c59]; decide) (by rw [c59]; rfl) (by decide) ?_
      refine sp_aload_n (pc := 414) dL_law_414 1 rfl ?_
      refine sp_aload_n (pc := 415) dL_law_415 0 rfl ?_
      refine sp_iload (pc := 416) dL_law_416 4 rfl ?_
      refine sp_iconst (pc := 418) (v := 1) dL_law_418 (by decide) ?_
      refine sp_iadd (pc := 419) dL_law_419 ?_
      obtain ⟨x60, ex60, hf⟩ := ob hf
      obtain ⟨g1x60, g2x60⟩ := sL_spec ex60
      refine sp_sld (pc := 420) hX dL_law_420 g1x60 ?_
      rw [g2x60]
      refine sp_aload_n (pc := 421) dL_law_421 0 rfl ?_
      refine sp_iload (pc := 422) dL_law_422 4 rfl ?_
      refine sp_iconst (pc := 424) (v := 2) dL_law_424 (by decide) ?_
      refine sp_iadd (pc := 425) dL_law_425 ?_
      obtain ⟨x61, ex61, hf⟩ := ob hf
      obtain ⟨g1x61, g2x61⟩ := sL_spec ex61
      refine sp_sld (pc := 426) hX dL_law_426 g1x61 ?_
      rw [g2x61]
      refine sp_aload_n (pc := 427) dL_law_427 3 rfl ?_
      obtain ⟨b63, eb63, hf⟩ := ob hf
      obtain ⟨b64, eb64, hf⟩ := ob hf
      obtain ⟨y62, ey62, hf⟩ := ob hf
      refine sp_callW (pc := 428) (hh9 := [(0, 10, 13, 28), (0, 10, 17, 13)]) (z := M_L_run) (As := [.ref v1, .int x60, .int x61, .ref v3]) (bc2 := b63) (bs2 := b64) (m_L_run (Q := _) (fun sz => ⟨y62.1, rfl, ?_⟩) hlt ey62) dL_law_428 rfl bk_738 ck_L_law_122 (Nat.le_of_ble_eq_true rfl) (tk_spec eb63) (tk_spec eb64) rfl
      refine sp_istore (pc := 431) (lv' := [(5, .int y62.1), (0, .ref v0), (1, .ref v1), (2, .ref v2), (3, .ref v3), (4, .int v4)]) dL_law_431 (by decide) rfl ?_
      refine sp_aload_n (pc := 433) dL_law_433 3 rfl ?_
      refine sp_aload_n (pc := 434) dL_law_434 1 rfl ?_
      refine sp_iload (pc := 435) dL_law_435 5 rfl ?_
      refine sp_iconst (pc := 437) (v := 1) dL_law_437 (by decide) ?_
      refine sp_iadd (pc := 438) dL_law_438 ?_
      obtain ⟨x65, ex65, hf⟩ := ob hf
      obtain ⟨g1x65, g2x65⟩ := sL_spec ex65
      refine sp_sld (pc := 439) hX dL_law_439 g1x65 ?_
      rw [g2x65]
      refine sp_aload_n (pc := 440) dL_law_440 1 rfl ?_
      refine sp_iload (pc := 441) dL_law_441 5 rfl ?_
      refine sp_iconst (pc := 443) (v := 2) dL_law_443 (by decide) ?_
      refine sp_iadd (pc := 444) dL_law_444 ?_
      obtain ⟨x66, ex66, hf⟩ := ob hf
      obtain ⟨g1x66, g2x66⟩ := sL_spec ex66
      refine sp_sld (pc := 445) hX dL_law_445 g1x66 ?_
      rw [g2x66]
      obtain ⟨y67, ey67, hf⟩ := ob hf
      obtain ⟨fsy67, hoy67⟩ := o_X8_run ey67
      refine sp_callVi (pc := 446) (z := M_X8_run) (As := [.int x65, .int x66]) (b := v2) (bc2 := b63) (bs2 := b64) (m_X8_run (Q := _) (fun sz => ⟨y67.1, rfl, ?_⟩) ey67) rfl dL_law_446 hoy67 rfl rfl ck_L_law_124 (Nat.le_of_ble_eq_true rfl) rfl rfl rfl
      refine sp_istore (pc := 449) (lv' := [(6, .int y67.1), (5, .int y62.1), (0, .ref v0), (1, .ref v1), (2, .ref v2), (3, .ref v3), (4, .int v4)]) dL_law_449 (by decide) rfl ?_
      refine sp_aload_n (pc := 451) dL_law_451 4 rfl ?_
      obtain ⟨y68, ey68, hf⟩ := ob hf
      obtain ⟨fsy68, hoy68⟩ := o_X8_thrown ey68
      refine sp_callVi (pc := 452) (z := M_X8_thrown) (As := []) (b := v2) (bc2 := b63) (bs2 := b64) (m_X8_thrown (Q := _) (fun sz => ⟨y68, rfl, ?_⟩) ey68) rfl dL_law_452 hoy68 rfl rfl ck_L_law_100 (Nat.le_of_ble_eq_true rfl) rfl rfl rfl
      refine sp_iload (pc := 455) dL_law_455 1 rfl ?_
      refine sp_icmp_eq (pc := 457) (tgt := 462) dL_law_457 (by decide) (fun c69 => ?_) (fun c69 => ?_)
      · rw [if_pos c69] at hf
        refine sp_iload (pc := 462) dL_law_462 1 rfl ?_
        refine sp_if_ne (pc := 464) (tgt := 479) dL_law_464 (by decide) (fun c70 => ?_) (fun c70 => ?_)
        · rw [if_neg c70] at hf
          refine sp_goto (pc := 479) (tgt := 1665) dL_law_479 (by decide) ?_
          refine sp_iinc (pc := 1665) (v := v4 + 4) (lv' := [(4, .int (v4 + 4)), (6, .int y67.1), (5, .int y62.1), (0, .ref v0), (1, .ref v1), (2, .ref v2), (3, .ref v3)]) dL_law_1665 6 rfl rfl (by decide) rfl ?_
          refine sp_goto (pc := 1668) (tgt := 23) dL_law_1668 (by decide) ?_
          exact sp_sub [3, 4, 5, 6, 0] rfl (hk23 _ _ _ _ _ _ _ _ hf)
        · rw [if_pos c70] at hf
          refine sp_aload_n (pc := 467) dL_law_467 5 rfl ?_
          refine sp_iconst (pc := 468) (v := 0) dL_law_468 (by decide) ?_
          obtain ⟨x71, ex71, hf⟩ := ob hf
          refine sp_aL (pc := 469) dL_law_469 ex71 ?_
          refine sp_iload (pc := 470) dL_law_470 0 rfl ?_
          refine sp_i2l (pc := 472) dL_law_472 ?_
          refine sp_lcmp (pc := 473) dL_law_473 ?_
          refine sp_if_eq (pc := 474) (tgt := 479) dL_law_474 (by decide) (fun c72 => ?_) (fun c72 => ?_)
          · rw [if_pos c72] at hf
            refine sp_goto (pc := 479) (tgt := 1665) dL_law_479 (by decide) ?_
            refine sp_iinc (pc := 1665) (v := v4 + 4) (lv' := [(4, .int (v4 + 4)), (6, .int y67.1), (5, .int y62.1), (0, .ref v0), (1, .ref v1), (2, .ref v2), (3, .ref v3)]) dL_law_1665 6 rfl rfl (by decide) rfl ?_
            refine sp_goto (pc := 1668) (tgt := 23) dL_law_1668 (by decide) ?_
            exact sp_sub [3, 4, 5, 6, 0] rfl (hk23 _ _ _ _ _ _ _ _ hf)
          · rw [if_neg c72] at hf
            refine sp_iconst (pc := 477) (v := 0) dL_law_477 (by decide) ?_
            obtain rfl := Option.some.inj hf
            exact sp_ireturn (pc := 478) dL_law_478 rfl rfl (hQ _ _)
      · rw [if_neg c69] at hf
        refine sp_iconst (pc := 460) (v := 0) dL_law_460 (by decide) ?_
        obtain rfl := Option.some.inj hf
        exact sp_ireturn (pc := 461) dL_law_461 rfl rfl (hQ _ _)
    rw [if_neg c59] at hf
    by_cases c73 : (x2 &&& 31) = 7
    · rw [if_pos c73] at hf
      refine sp_tableIn (pc := 39) (off := 443) (tgt := 482) dL_law_39 (by rw [c73]; decide) (by rw [c73]; decide) (by rw [c73]; rfl) (by decide) ?_
      refine sp_aload_n (pc := 482) dL_law_482 1 rfl ?_
      refine sp_aload_n (pc := 483) dL_law_483 0 rfl ?_
      refine sp_iload (pc := 484) dL_law_484 4 rfl ?_
      refine sp_iconst (pc := 486) (v := 1) dL_law_486 (by decide) ?_
      refine sp_iadd (pc := 487) dL_law_487 ?_
      obtain ⟨x74, ex74, hf⟩ := ob hf
      obtain ⟨g1x74, g2x74⟩ := sL_spec ex74
      refine sp_sld (pc := 488) hX dL_law_488 g1x74 ?_
      rw [g2x74]
      refine sp_aload_n (pc := 489) dL_law_489 0 rfl ?_
      refine sp_iload (pc := 490) dL_law_490 4 rfl ?_
      refine sp_iconst (pc := 492) (v := 2) dL_law_492 (by decide) ?_
      refine sp_iadd (pc := 493) dL_law_493 ?_
      obtain ⟨x75, ex75, hf⟩ := ob hf
      obtain ⟨g1x75, g2x75⟩ := sL_spec ex75
      refine sp_sld (pc := 494) hX dL_law_494 g1x75 ?_
      rw [g2x75]
      refine sp_aload_n (pc := 495) dL_law_495 0 rfl ?_
      refine sp_iload (pc := 496) dL_law_496 4 rfl ?_
      refine sp_iconst (pc := 498) (v := 3) dL_law_498 (by decide) ?_
      refine sp_iadd (pc := 499) dL_law_499 ?_
      obtain ⟨x76, ex76, hf⟩ := ob hf
      obtain ⟨g1x76, g2x76⟩ := sL_spec ex76
      refine sp_sld (pc := 500) hX dL_law_500 g1x76 ?_
      rw [g2x76]
      refine sp_aload_n (pc := 501) dL_law_501 3 rfl ?_
      obtain ⟨b78, eb78, hf⟩ := ob hf
      obtain ⟨b79, eb79, hf⟩ := ob hf
      obtain ⟨y77, ey77, hf⟩ := ob hf
      refine sp_callW (pc := 502) (hh9 := [(0, 12, 15, 28), (0, 12, 19, 13)]) (z := M_L_write) (As := [.ref v1, .int x74, .int x75, .int x76, .ref v3]) (bc2 := b78) (bs2 := b79) (m_L_write (Q := _) (fun sz => ⟨y77.1, rfl, ?_⟩) hlt ey77) dL_law_502 rfl bk_772 ck_L_law_125 (Nat.le_of_ble_eq_true rfl) (tk_spec eb78) (tk_spec eb79) rfl
      refine sp_istore (pc := 505) (lv' := [(5, .int y77.1), (0, .ref v0), (1, .ref v1), (2, .ref v2), (3, .ref v3), (4, .int v4)]) dL_law_505 (by decide) rfl ?_
      refine sp_aload_n (pc := 507) dL_law_507 3 rfl ?_
      refine sp_aload_n (pc := 508) dL_law_508 1 rfl ?_
      refine sp_iload (pc := 509) dL_law_509 5 rfl ?_
      refine sp_iconst (pc := 511) (v := 1) dL_law_511 (by decide) ?_
      refine sp_iadd (pc := 512) dL_law_512 ?_
      obtain ⟨x80, ex80, hf⟩ := ob hf
      obtain ⟨g1x80, g2x80⟩ := sL_spec ex80
      refine sp_sld (pc := 513) hX dL_law_513 g1x80 ?_
      rw [g2x80]
      refine sp_aload_n (pc := 514) dL_law_514 1 rfl ?_
      refine sp_iload (pc := 515) dL_law_515 5 rfl ?_
      refine sp_iconst (pc := 517) (v := 2) dL_law_517 (by decide) ?_
      refine sp_iadd (pc := 518) dL_law_518 ?_
      obtain ⟨x81, ex81, hf⟩ := ob hf
      obtain ⟨g1x81, g2x81⟩ := sL_spec ex81
      refine sp_sld (pc := 519) hX dL_law_519 g1x81 ?_
      rw [g2x81]
      refine sp_aload_n (pc := 520) dL_law_520 1 rfl ?_
      refine sp_iload (pc := 521) dL_law_521 5 rfl ?_
      refine sp_iconst (pc := 523) (v := 3) dL_law_523 (by decide) ?_
      refine sp_iadd (pc := 524) dL_law_524 ?_
      obtain ⟨x82, ex82, hf⟩ := ob hf
      obtain ⟨g1x82, g2x82⟩ := sL_spec ex82
      refine sp_sld (pc := 525) hX dL_law_525 g1x82 ?_
      rw [g2x82]
      obtain ⟨y83, ey83, hf⟩ := ob hf
      obtain ⟨fsy83, hoy83⟩ := o_X8_write ey83
      refine sp_callVi (pc := 526) (z := M_X8_write) (As := [.int x80, .int x81, .int x82]) (b := v2) (bc2 := b78) (bs2 := b79) (m_X8_write (Q := _) (fun sz => ⟨y83.1, rfl, ?_⟩) ey83) rfl dL_law_526 hoy83 rfl rfl ck_L_law_128 (Nat.le_of_ble_eq_true rfl) rfl rfl rfl
      refine sp_istore (pc := 529) (lv' := [(6, .int y83.1), (5, .int y77.1), (0, .ref v0), (1, .ref v1), (2, .ref v2), (3, .ref v3), (4, .int v4)]) dL_law_529 (by decide) rfl ?_
      refine sp_aload_n (pc := 531) dL_law_531 4 rfl ?_
      obtain ⟨y84, ey84, hf⟩ := ob hf
      obtain ⟨fsy84, hoy84⟩ := o_X8_thrown ey84
      refine sp_callVi (pc := 532) (z := M_X8_thrown) (As := []) (b := v2) (bc2 := b78) (bs2 := b79) (m_X8_thrown (Q := _) (fun sz => ⟨y84, rfl, ?_⟩) ey84) rfl dL_law_532 hoy84 rfl rfl ck_L_law_100 (Nat.le_of_ble_eq_true rfl) rfl rfl rfl
      refine sp_iload (pc := 535) dL_law_535 1 rfl ?_
      refine sp_icmp_eq (pc := 537) (tgt := 542) dL_law_537 (by decide) (fun c85 => ?_) (fun c85 => ?_)
      · rw [if_pos c85] at hf
        refine sp_iload (pc := 542) dL_law_542 1 rfl ?_
        refine sp_if_ne (pc := 544) (tgt := 559) dL_law_544 (by decide) (fun c86 => ?_) (fun c86 => ?_)
        · rw [if_neg c86] at hf
          refine sp_goto (pc := 559) (tgt := 1665) dL_law_559 (by decide) ?_
          refine sp_iinc (pc := 1665) (v := v4 + 4) (lv' := [(4, .int (v4 + 4)), (6, .int y83.1), (5, .int y77.1), (0, .ref v0), (1, .ref v1), (2, .ref v2), (3, .ref v3)]) dL_law_1665 6 rfl rfl (by decide) rfl ?_
          refine sp_goto (pc := 1668) (tgt := 23) dL_law_1668 (by decide) ?_
          exact sp_sub [3, 4, 5, 6, 0] rfl (hk23 _ _ _ _ _ _ _ _ hf)
        · rw [if_pos c86] at hf
          refine sp_aload_n (pc := 547) dL_law_547 5 rfl ?_
          refine sp_iconst (pc := 548) (v := 0) dL_law_548 (by decide) ?_
          obtain ⟨x87, ex87, hf⟩ := ob hf
          refine sp_aL (pc := 549) dL_law_549 ex87 ?_
          refine sp_iload (pc := 550) dL_law_550 0 rfl ?_
          refine sp_i2l (pc := 552) dL_law_552 ?_
          refine sp_lcmp (pc := 553) dL_law_553 ?_
          refine sp_if_eq (pc := 554) (tgt := 559) dL_law_554 (by decide) (fun c88 => ?_) (fun c88 => ?_)
          · rw [if_pos c88] at hf
            refine sp_goto (pc := 559) (tgt := 1665) dL_law_559 (by decide) ?_
            refine sp_iinc (pc := 1665) (v := v4 + 4) (lv' := [(4, .int (v4 + 4)), (6, .int y83.1), (5, .int y77.1), (0, .ref v0), (1, .ref v1), (2, .ref v2), (3, .ref v3)]) dL_law_1665 6 rfl rfl (by decide) rfl ?_
            refine sp_goto (pc := 1668) (tgt := 23) dL_law_1668 (by decide) ?_
            exact sp_sub [3, 4, 5, 6, 0] rfl (hk23 _ _ _ _ _ _ _ _ hf)
          · rw [if_neg c88] at hf
            refine sp_iconst (pc := 557) (v := 0) dL_law_557 (by decide) ?_
            obtain rfl := Option.some.inj hf
            exact sp_ireturn (pc := 558) dL_law_558 rfl rfl (hQ _ _)
      · rw [if_neg c85] at hf
        refine sp_iconst (pc := 540) (v := 0) dL_law_540 (by decide) ?_
        obtain rfl := Option.some.inj hf
        exact sp_ireturn (pc := 541) dL_law_541 rfl rfl (hQ _ _)
    rw [if_neg c73] at hf
    by_cases c89 : (x2 &&& 31) = 8
    · rw [if_pos c89] at hf
      refine sp_tableIn (pc := 39) (off := 523) (tgt := 562) dL_law_39 (by rw [c89]; decide) (by rw [c89]; decide) (by rw [c89]; rfl) (by decide) ?_
      refine sp_aload_n (pc := 562) dL_law_562 1 rfl ?_
      refine sp_aload_n (pc := 563) dL_law_563 0 rfl ?_
      refine sp_iload (pc := 564) dL_law_564 4 rfl ?_
      refine sp_iconst (pc := 566) (v := 1) dL_law_566 (by decide) ?_
      refine sp_iadd (pc := 567) dL_law_567 ?_
      obtain ⟨x90, ex90, hf⟩ := ob hf
      obtain ⟨g1x90, g2x90⟩ := sL_spec ex90
      refine sp_sld (pc := 568) hX dL_law_568 g1x90 ?_
      rw [g2x90]
      refine sp_aload_n (pc := 569) dL_law_569 3 rfl ?_
      obtain ⟨b92, eb92, hf⟩ := ob hf
      obtain ⟨b93, eb93, hf⟩ := ob hf
      obtain ⟨y91, ey91, hf⟩ := ob hf
      refine sp_callW (pc := 570) (hh9 := [(0, 9, 12, 28)]) (z := M_L_eye) (As := [.ref v1, .int x90, .ref v3]) (bc2 := b92) (bs2 := b93) (m_L_eye (Q := _) (fun sz => ⟨y91.1, rfl, ?_⟩) hlt ey91) dL_law_570 rfl bk_783 ck_L_law_129 (Nat.le_of_ble_eq_true rfl) (tk_spec eb92) (tk_spec eb93) rfl
      refine sp_istore (pc := 573) (lv' := [(5, .int y91.1), (0, .ref v0), (1, .ref v1), (2, .ref v2), (3, .ref v3), (4, .int v4)]) dL_law_573 (by decide) rfl ?_
      refine sp_aload_n (pc := 575) dL_law_575 3 rfl ?_
      refine sp_aload_n (pc := 576) dL_law_576 1 rfl ?_
      refine sp_iload (pc := 577) dL_law_577 5 rfl ?_
      refine sp_iconst (pc := 579) (v := 1) dL_law_579 (by decide) ?_
      refine sp_iadd (pc := 580) dL_law_580 ?_
      obtain ⟨x94, ex94, hf⟩ := ob hf
      obtain ⟨g1x94, g2x94⟩ := sL_spec ex94
      refine sp_sld (pc := 581) hX dL_law_581 g1x94 ?_
      rw [g2x94]
      obtain ⟨y95, ey95, hf⟩ := ob hf
      obtain ⟨fsy95, hoy95⟩ := o_X8_eye ey95
      refine sp_callVi (pc := 582) (z := M_X8_eye) (As := [.int x94]) (b := v2) (bc2 := b92) (bs2 := b93) (m_X8_eye (Q := _) (fun sz => ⟨y95.1, rfl, ?_⟩) ey95) rfl dL_law_582 hoy95 rfl rfl ck_L_law_131 (Nat.le_of_ble_eq_true rfl) rfl rfl rfl
      refine sp_istore (pc := 585) (lv' := [(6, .int y95.1), (5, .int y91.1), (0, .ref v0), (1, .ref v1), (2, .ref v2), (3, .ref v3), (4, .int v4)]) dL_law_585 (by decide) rfl ?_
      refine sp_aload_n (pc := 587) dL_law_587 4 rfl ?_
      obtain ⟨y96, ey96, hf⟩ := ob hf
      obtain ⟨fsy96, hoy96⟩ := o_X8_thrown ey96
      refine sp_callVi (pc := 588) (z := M_X8_thrown) (As := []) (b := v2) (bc2 := b92) (bs2 := b93) (m_X8_thrown (Q := _) (fun sz => ⟨y96, rfl, ?_⟩) ey96) rfl dL_law_588 hoy96 rfl rfl ck_L_law_100 (Nat.le_of_ble_eq_true rfl) rfl rfl rfl
      refine sp_iload (pc := 591) dL_law_591 1 rfl ?_
      refine sp_icmp_eq (pc := 593) (tgt := 598) dL_law_593 (by decide) (fun c97 => ?_) (fun c97 => ?_)
      · rw [if_pos c97] at hf
        refine sp_iload (pc := 598) dL_law_598 1 rfl ?_
        refine sp_if_ne (pc := 600) (tgt := 615) dL_law_600 (by decide) (fun c98 => ?_) (fun c98 => ?_)
        · rw [if_neg c98] at hf
          refine sp_goto (pc := 615) (tgt := 1665) dL_law_615 (by decide) ?_
          refine sp_iinc (pc := 1665) (v := v4 + 4) (lv' := [(4, .int (v4 + 4)), (6, .int y95.1), (5, .int y91.1), (0, .ref v0), (1, .ref v1), (2, .ref v2), (3, .ref v3)]) dL_law_1665 6 rfl rfl (by decide) rfl ?_
          refine sp_goto (pc := 1668) (tgt := 23) dL_law_1668 (by decide) ?_
          exact sp_sub [3, 4, 5, 6, 0] rfl (hk23 _ _ _ _ _ _ _ _ hf)
        · rw [if_pos c98] at hf
          refine sp_aload_n (pc := 603) dL_law_603 5 rfl ?_
          refine sp_iconst (pc := 604) (v := 0) dL_law_604 (by decide) ?_
          obtain ⟨x99, ex99, hf⟩ := ob hf
          refine sp_aL (pc := 605) dL_law_605 ex99 ?_
          refine sp_iload (pc := 606) dL_law_606 0 rfl ?_
          refine sp_i2l (pc := 608) dL_law_608 ?_
          refine sp_lcmp (pc := 609) dL_law_609 ?_
          refine sp_if_eq (pc := 610) (tgt := 615) dL_law_610 (by decide) (fun c100 => ?_) (fun c100 => ?_)
          · rw [if_pos c100] at hf
            refine sp_goto (pc := 615) (tgt := 1665) dL_law_615 (by decide) ?_
            refine sp_iinc (pc := 1665) (v := v4 + 4) (lv' := [(4, .int (v4 + 4)), (6, .int y95.1), (5, .int y91.1), (0, .ref v0), (1, .ref v1), (2, .ref v2), (3, .ref v3)]) dL_law_1665 6 rfl rfl (by decide) rfl ?_
            refine sp_goto (pc := 1668) (tgt := 23) dL_law_1668 (by decide) ?_
            exact sp_sub [3, 4, 5, 6, 0] rfl (hk23 _ _ _ _ _ _ _ _ hf)
          · rw [if_neg c100] at hf
            refine sp_iconst (pc := 613) (v := 0) dL_law_613 (by decide) ?_
            obtain rfl := Option.some.inj hf
            exact sp_ireturn (pc := 614) dL_law_614 rfl rfl (hQ _ _)
      · rw [if_neg c97] at hf
        refine sp_iconst (pc := 596) (v := 0) dL_law_596 (by decide) ?_
        obtain rfl := Option.some.inj hf
        exact sp_ireturn (pc := 597) dL_law_597 rfl rfl (hQ _ _)
    rw [if_neg c89] at hf
    by_cases c101 : (x2 &&& 31) = 9
    · rw [if_pos c101] at hf
      refine sp_tableIn (pc := 39) (off := 579) (tgt := 618) dL_law_39 (by rw [c101]; decide) (by rw [c101]; decide) (by rw [c101]; rfl) (by decide) ?_
      refine sp_aload_n (pc := 618) dL_law_618 1 rfl ?_
      refine sp_aload_n (pc := 619) dL_law_619 0 rfl ?_
      refine sp_iload (pc := 620) dL_law_620 4 rfl ?_
      refine sp_iconst (pc := 622) (v := 1) dL_law_622 (by decide) ?_
      refine sp_iadd (pc := 623) dL_law_623 ?_
      obtain ⟨x102, ex102, hf⟩ := ob hf
      obtain ⟨g1x102, g2x102⟩ := sL_spec ex102
      refine sp_sld (pc := 624) hX dL_law_624 g1x102 ?_
      rw [g2x102]
      refine sp_aload_n (pc := 625) dL_law_625 0 rfl ?_
      refine sp_iload (pc := 626) dL_law_626 4 rfl ?_
      refine sp_iconst (pc := 628) (v := 2) dL_law_628 (by decide) ?_
      refine sp_iadd (pc := 629) dL_law_629 ?_
      obtain ⟨x103, ex103, hf⟩ := ob hf
      obtain ⟨g1x103, g2x103⟩ := sL_spec ex103
      refine sp_sld (pc := 630) hX dL_law_630 g1x103 ?_
      rw [g2x103]
      refine sp_aload_n (pc := 631) dL_law_631 3 rfl ?_
      obtain ⟨b105, eb105, hf⟩ := ob hf
      obtain ⟨b106, eb106, hf⟩ := ob hf
      obtain ⟨y104, ey104, hf⟩ := ob hf
      refine sp_callW (pc := 632) (hh9 := [(0, 10, 13, 28), (0, 10, 17, 13), (0, 10, 21, 15)]) (z := M_L_put) (As := [.ref v1, .int x102, .int x103, .ref v3]) (bc2 := b105) (bs2 := b106) (m_L_put (Q := _) (fun sz => ⟨y104.1, rfl, ?_⟩) hlt ey104) dL_law_632 rfl bk_792 ck_L_law_132 (Nat.le_of_ble_eq_true rfl) (tk_spec eb105) (tk_spec eb106) rfl
      refine sp_istore (pc := 635) (lv' := [(5, .int y104.1), (0, .ref v0), (1, .ref v1), (2, .ref v2), (3, .ref v3), (4, .int v4)]) dL_law_635 (by decide) rfl ?_
      refine sp_aload_n (pc := 637) dL_law_637 3 rfl ?_
      refine sp_aload_n (pc := 638) dL_law_638 1 rfl ?_
      refine sp_iload (pc := 639) dL_law_639 5 rfl ?_
      refine sp_iconst (pc := 641) (v := 1) dL_law_641 (by decide) ?_
      refine sp_iadd (pc := 642) dL_law_642 ?_
      obtain ⟨x107, ex107, hf⟩ := ob hf
      obtain ⟨g1x107, g2x107⟩ := sL_spec ex107
      refine sp_sld (pc := 643) hX dL_law_643 g1x107 ?_
      rw [g2x107]
      refine sp_aload_n (pc := 644) dL_law_644 1 rfl ?_
      refine sp_iload (pc := 645) dL_law_645 5 rfl ?_
      refine sp_iconst (pc := 647) (v := 2) dL_law_647 (by decide) ?_
      refine sp_iadd (pc := 648) dL_law_648 ?_
      obtain ⟨x108, ex108, hf⟩ := ob hf
      obtain ⟨g1x108, g2x108⟩ := sL_spec ex108
      refine sp_sld (pc := 649) hX dL_law_649 g1x108 ?_
      rw [g2x108]
      obtain ⟨y109, ey109, hf⟩ := ob hf
      obtain ⟨fsy109, hoy109⟩ := o_X8_put ey109
      refine sp_callVi (pc := 650) (z := M_X8_put) (As := [.int x107, .int x108]) (b := v2) (bc2 := b105) (bs2 := b106) (m_X8_put (Q := _) (fun sz => ⟨y109.1, rfl, ?_⟩) ey109) rfl dL_law_650 hoy109 rfl rfl ck_L_law_134 (Nat.le_of_ble_eq_true rfl) rfl rfl rfl
      refine sp_istore (pc := 653) (lv' := [(6, .int y109.1), (5, .int y104.1), (0, .ref v0), (1, .ref v1), (2, .ref v2), (3, .ref v3), (4, .int v4)]) dL_law_653 (by decide) rfl ?_
      refine sp_aload_n (pc := 655) dL_law_655 4 rfl ?_
      obtain ⟨y110, ey110, hf⟩ := ob hf
      obtain ⟨fsy110, hoy110⟩ := o_X8_thrown ey110
      refine sp_callVi (pc := 656) (z := M_X8_thrown) (As := []) (b := v2) (bc2 := b105) (bs2 := b106) (m_X8_thrown (Q := _) (fun sz => ⟨y110, rfl, ?_⟩) ey110) rfl dL_law_656 hoy110 rfl rfl ck_L_law_100 (Nat.le_of_ble_eq_true rfl) rfl rfl rfl
      refine sp_iload (pc := 659) dL_law_659 1 rfl ?_
      refine sp_icmp_eq (pc := 661) (tgt := 666) dL_law_661 (by decide) (fun c111 => ?_) (fun c111 => ?_)
      · rw [if_pos c111] at hf
        refine sp_iload (pc := 666) dL_law_666 1 rfl ?_
        refine sp_if_ne (pc := 668) (tgt := 683) dL_law_668 (by decide) (fun c112 => ?_) (fun c112 => ?_)
        · rw [if_neg c112] at hf
          refine sp_goto (pc := 683) (tgt := 1665) dL_law_683 (by decide) ?_
          refine sp_iinc (pc := 1665) (v := v4 + 4) (lv' := [(4, .int (v4 + 4)), (6, .int y109.1), (5, .int y104.1), (0, .ref v0), (1, .ref v1), (2, .ref v2), (3, .ref v3)]) dL_law_1665 6 rfl rfl (by decide) rfl ?_
          refine sp_goto (pc := 1668) (tgt := 23) dL_law_1668 (by decide) ?_
          exact sp_sub [3, 4, 5, 6, 0] rfl (hk23 _ _ _ _ _ _ _ _ hf)
        · rw [if_pos c112] at hf
          refine sp_aload_n (pc := 671) dL_law_671 5 rfl ?_
          refine sp_iconst (pc := 672) (v := 0) dL_law_672 (by decide) ?_
          obtain ⟨x113, ex113, hf⟩ := ob hf
          refine sp_aL (pc := 673) dL_law_673 ex113 ?_
          refine sp_iload (pc := 674) dL_law_674 0 rfl ?_
          refine sp_i2l (pc := 676) dL_law_676 ?_
          refine sp_lcmp (pc := 677) dL_law_677 ?_
          refine sp_if_eq (pc := 678) (tgt := 683) dL_law_678 (by decide) (fun c114 => ?_) (fun c114 => ?_)
          · rw [if_pos c114] at hf
            refine sp_goto (pc := 683) (tgt := 1665) dL_law_683 (by decide) ?_
            refine sp_iinc (pc := 1665) (v := v4 + 4) (lv' := [(4, .int (v4 + 4)), (6, .int y109.1), (5, .int y104.1), (0, .ref v0), (1, .ref v1), (2, .ref v2), (3, .ref v3)]) dL_law_1665 6 rfl rfl (by decide) rfl ?_
            refine sp_goto (pc := 1668) (tgt := 23) dL_law_1668 (by decide) ?_
            exact sp_sub [3, 4, 5, 6, 0] rfl (hk23 _ _ _ _ _ _ _ _ hf)
          · rw [if_neg c114] at hf
            refine sp_iconst (pc := 681) (v := 0) dL_law_681 (by decide) ?_
            obtain rfl := Option.some.inj hf
            exact sp_ireturn (pc := 682) dL_law_682 rfl rfl (hQ _ _)
      · rw [if_neg c111] at hf
        refine sp_iconst (pc := 664) (v := 0) dL_law_664 (by decide) ?_
        obtain rfl := Option.some.inj hf
        exact sp_ireturn (pc := 665) dL_law_665 rfl rfl (hQ _ _)
    rw [if_neg c101] at hf
    by_cases c115 : (x2 &&& 31) = 10
    · rw [if_pos c115] at hf
      refine sp_tableIn (pc := 39) (off := 647) (tgt := 686) dL_law_39 (by rw [c115]; decide) (by rw [c115]; decide) (by rw [c115]; rfl) (by decide) ?_
      refine sp_aload_n (pc := 686) dL_law_686 1 rfl ?_
      refine sp_aload_n (pc := 687) dL_law_687 0 rfl ?_
      refine sp_iload (pc := 688) dL_law_688 4 rfl ?_
      refine sp_iconst (pc := 690) (v := 1) dL_law_690 (by decide) ?_
      refine sp_iadd (pc := 691) dL_law_691 ?_
      obtain ⟨x116, ex116, hf⟩ := ob hf
      obtain ⟨g1x116, g2x116⟩ := sL_spec ex116
      refine sp_sld (pc := 692) hX dL_law_692 g1x116 ?_
      rw [g2x116]
      refine sp_aload_n (pc := 693) dL_law_693 0 rfl ?_
      refine sp_iload (pc := 694) dL_law_694 4 rfl ?_
      refine sp_iconst (pc := 696) (v := 2) dL_law_696 (by decide) ?_
      refine sp_iadd (pc := 697) dL_law_697 ?_
      obtain ⟨x117, ex117, hf⟩ := ob hf
      obtain ⟨g1x117, g2x117⟩ := sL_spec ex117
      refine sp_sld (pc := 698) hX dL_law_698 g1x117 ?_
      rw [g2x117]
      refine sp_aload_n (pc := 699) dL_law_699 3 rfl ?_
      obtain ⟨b119, eb119, hf⟩ := ob hf
      obtain ⟨b120, eb120, hf⟩ := ob hf
      obtain ⟨y118, ey118, hf⟩ := ob hf
      refine sp_callW (pc := 700) (hh9 := [(0, 10, 13, 28), (0, 10, 17, 13), (0, 10, 21, 15)]) (z := M_L_bury) (As := [.ref v1, .int x116, .int x117, .ref v3]) (bc2 := b119) (bs2 := b120) (m_L_bury (Q := _) (fun sz => ⟨y118.1, rfl, ?_⟩) hlt ey118) dL_law_700 rfl bk_810 ck_L_law_135 (Nat.le_of_ble_eq_true rfl) (tk_spec eb119) (tk_spec eb120) rfl
      refine sp_istore (pc := 703) (lv' := [(5, .int y118.1), (0, .ref v0), (1, .ref v1), (2, .ref v2), (3, .ref v3), (4, .int v4)]) dL_law_703 (by decide) rfl ?_
      refine sp_aload_n (pc := 705) dL_law_705 3 rfl ?_
      refine sp_aload_n (pc := 706) dL_law_706 1 rfl ?_
      refine sp_iload (pc := 707) dL_law_707 5 rfl ?_
      refine sp_iconst (pc := 709) (v := 1) dL_law_709 (by decide) ?_
      refine sp_iadd (pc := 710) dL_law_710 ?_
      obtain ⟨x121, ex121, hf⟩ := ob hf
      obtain ⟨g1x121, g2x121⟩ := sL_spec ex121
      refine sp_sld (pc := 711) hX dL_law_711 g1x121 ?_
      rw [g2x121]
      refine sp_aload_n (pc := 712) dL_law_712 1 rfl ?_
      refine sp_iload (pc := 713) dL_law_713 5 rfl ?_
      refine sp_iconst (pc := 715) (v := 2) dL_law_715 (by decide) ?_
      refine sp_iadd (pc := 716) dL_law_716 ?_
      obtain ⟨x122, ex122, hf⟩ := ob hf
      obtain ⟨g1x122, g2x122⟩ := sL_spec ex122
      refine sp_sld (pc := 717) hX dL_law_717 g1x122 ?_
      rw [g2x122]
      obtain ⟨y123, ey123, hf⟩ := ob hf
      obtain ⟨fsy123, hoy123⟩ := o_X8_bury ey123
      refine sp_callVi (pc := 718) (z := M_X8_bury) (As := [.int x121, .int x122]) (b := v2) (bc2 := b119) (bs2 := b120) (m_X8_bury (Q := _) (fun sz => ⟨y123.1, rfl, ?_⟩) ey123) rfl dL_law_718 hoy123 rfl rfl ck_L_law_137 (Nat.le_of_ble_eq_true rfl) rfl rfl rfl
      refine sp_istore (pc := 721) (lv' := [(6, .int y123.1), (5, .int y118.1), (0, .ref v0), (1, .ref v1), (2, .ref v2), (3, .ref v3), (4, .int v4)]) dL_law_721 (by decide) rfl ?_
      refine sp_aload_n (pc := 723) dL_law_723 4 rfl ?_
      obtain ⟨y124, ey124, hf⟩ := ob hf
      obtain ⟨fsy124, hoy124⟩ := o_X8_thrown ey124
      refine sp_callVi (pc := 724) (z := M_X8_thrown) (As := []) (b := v2) (bc2 := b119) (bs2 := b120) (m_X8_thrown (Q := _) (fun sz => ⟨y124, rfl, ?_⟩) ey124) rfl dL_law_724 hoy124 rfl rfl ck_L_law_100 (Nat.le_of_ble_eq_true rfl) rfl rfl rfl
      refine sp_iload (pc := 727) dL_law_727 1 rfl ?_
      refine sp_icmp_eq (pc := 729) (tgt := 734) dL_law_729 (by decide) (fun c125 => ?_) (fun c125 => ?_)
      · rw [if_pos c125] at hf
        refine sp_iload (pc := 734) dL_law_734 1 rfl ?_
        refine sp_if_ne (pc := 736) (tgt := 751) dL_law_736 (by decide) (fun c126 => ?_) (fun c126 => ?_)
        · rw [if_neg c126] at hf
          refine sp_goto (pc := 751) (tgt := 1665) dL_law_751 (by decide) ?_
          refine sp_iinc (pc := 1665) (v := v4 + 4) (lv' := [(4, .int (v4 + 4)), (6, .int y123.1), (5, .int y118.1), (0, .ref v0), (1, .ref v1), (2, .ref v2), (3, .ref v3)]) dL_law_1665 6 rfl rfl (by decide) rfl ?_
          refine sp_goto (pc := 1668) (tgt := 23) dL_law_1668 (by decide) ?_
          exact sp_sub [3, 4, 5, 6, 0] rfl (hk23 _ _ _ _ _ _ _ _ hf)
        · rw [if_pos c126] at hf
          refine sp_aload_n (pc := 739) dL_law_739 5 rfl ?_
          refine sp_iconst (pc := 740) (v := 0) dL_law_740 (by decide) ?_
          obtain ⟨x127, ex127, hf⟩ := ob hf
          refine sp_aL (pc := 741) dL_law_741 ex127 ?_
          refine sp_iload (pc := 742) dL_law_742 0 rfl ?_
          refine sp_i2l (pc := 744) dL_law_744 ?_
          refine sp_lcmp (pc := 745) dL_law_745 ?_
          refine sp_if_eq (pc := 746) (tgt := 751) dL_law_746 (by decide) (fun c128 => ?_) (fun c128 => ?_)
          · rw [if_pos c128] at hf
            refine sp_goto (pc := 751) (tgt := 1665) dL_law_751 (by decide) ?_
            refine sp_iinc (pc := 1665) (v := v4 + 4) (lv' := [(4, .int (v4 + 4)), (6, .int y123.1), (5, .int y118.1), (0, .ref v0), (1, .ref v1), (2, .ref v2), (3, .ref v3)]) dL_law_1665 6 rfl rfl (by decide) rfl ?_
            refine sp_goto (pc := 1668) (tgt := 23) dL_law_1668 (by decide) ?_
            exact sp_sub [3, 4, 5, 6, 0] rfl (hk23 _ _ _ _ _ _ _ _ hf)
          · rw [if_neg c128] at hf
            refine sp_iconst (pc := 749) (v := 0) dL_law_749 (by decide) ?_
            obtain rfl := Option.some.inj hf
            exact sp_ireturn (pc := 750) dL_law_750 rfl rfl (hQ _ _)
      · rw [if_neg c125] at hf
        refine sp_iconst (pc := 732) (v := 0) dL_law_732 (by decide) ?_
        obtain rfl := Option.some.inj hf
        exact sp_ireturn (pc := 733) dL_law_733 rfl rfl (hQ _ _)
    rw [if_neg c115] at hf
    by_cases c129 : (x2 &&& 31) = 11
    · rw [if_pos c129] at hf
      refine sp_tableIn (pc := 39) (off := 715) (tgt := 754) dL_law_39 (by rw [c129]; decide) (by rw [c129]; decide) (by rw [c129]; rfl) (by decide) ?_
      refine sp_aload_n (pc := 754) dL_law_754 1 rfl ?_
      refine sp_aload_n (pc := 755) dL_law_755 3 rfl ?_
      obtain ⟨b131, eb131, hf⟩ := ob hf
      obtain ⟨b132, eb132, hf⟩ := ob hf
      obtain ⟨y130, ey130, hf⟩ := ob hf
      refine sp_callW (pc := 756) (hh9 := [(0, 8, 11, 15)]) (z := M_L_open) (As := [.ref v1, .ref v3]) (bc2 := b131) (bs2 := b132) (m_L_open (Q := _) (fun sz => ⟨y130.1, rfl, ?_⟩) hlt ey130) dL_law_756 rfl bk_818 ck_L_law_138 (Nat.le_of_ble_eq_true rfl) (tk_spec eb131) (tk_spec eb132) rfl
      refine sp_istore (pc := 759) (lv' := [(5, .int y130.1), (0, .ref v0), (1, .ref v1), (2, .ref v2), (3, .ref v3), (4, .int v4)]) dL_law_759 (by decide) rfl ?_
      refine sp_aload_n (pc := 761) dL_law_761 3 rfl ?_
      obtain ⟨y133, ey133, hf⟩ := ob hf
      obtain ⟨fsy133, hoy133⟩ := o_X8_open ey133
      refine sp_callVi (pc := 762) (z := M_X8_open) (As := []) (b := v2) (bc2 := b131) (bs2 := b132) (m_X8_open (Q := _) (fun sz => ⟨y133.1, rfl, ?_⟩) ey133) rfl dL_law_762 hoy133 rfl rfl ck_L_law_140 (Nat.le_of_ble_eq_true rfl) rfl rfl rfl
      refine sp_istore (pc := 765) (lv' := [(6, .int y133.1), (5, .int y130.1), (0, .ref v0), (1, .ref v1), (2, .ref v2), (3, .ref v3), (4, .int v4)]) dL_law_765 (by decide) rfl ?_
      refine sp_aload_n (pc := 767) dL_law_767 4 rfl ?_
      obtain ⟨y134, ey134, hf⟩ := ob hf
      obtain ⟨fsy134, hoy134⟩ := o_X8_thrown ey134
      refine sp_callVi (pc := 768) (z := M_X8_thrown) (As := []) (b := v2) (bc2 := b131) (bs2 := b132) (m_X8_thrown (Q := _) (fun sz => ⟨y134, rfl, ?_⟩) ey134) rfl dL_law_768 hoy134 rfl rfl ck_L_law_100 (Nat.le_of_ble_eq_true rfl) rfl rfl rfl
      refine sp_iload (pc := 771) dL_law_771 1 rfl ?_
      refine sp_icmp_eq (pc := 773) (tgt := 778) dL_law_773 (by decide) (fun c135 => ?_) (fun c135 => ?_)
      · rw [if_pos c135] at hf
        refine sp_iload (pc := 778) dL_law_778 1 rfl ?_
        refine sp_if_ne (pc := 780) (tgt := 795) dL_law_780 (by decide) (fun c136 => ?_) (fun c136 => ?_)
        · rw [if_neg c136] at hf
          refine sp_goto (pc := 795) (tgt := 1665) dL_law_795 (by decide) ?_
          refine sp_iinc (pc := 1665) (v := v4 + 4) (lv' := [(4, .int (v4 + 4)), (6, .int y133.1), (5, .int y130.1), (0, .ref v0), (1, .ref v1), (2, .ref v2), (3, .ref v3)]) dL_law_1665 6 rfl rfl (by decide) rfl ?_
          refine sp_goto (pc := 1668) (tgt := 23) dL_law_1668 (by decide) ?_
          exact sp_sub [3, 4, 5, 6, 0] rfl (hk23 _ _ _ _ _ _ _ _ hf)
        · rw [if_pos c136] at hf
          refine sp_aload_n (pc := 783) dL_law_783 5 rfl ?_
          refine sp_iconst (pc := 784) (v := 0) dL_law_784 (by decide) ?_
          obtain ⟨x137, ex137, hf⟩ := ob hf
          refine sp_aL (pc := 785) dL_law_785 ex137 ?_
          refine sp_iload (pc := 786) dL_law_786 0 rfl ?_
          refine sp_i2l (pc := 788) dL_law_788 ?_
          refine sp_lcmp (pc := 789) dL_law_789 ?_
          refine sp_if_eq (pc := 790) (tgt := 795) dL_law_790 (by decide) (fun c138 => ?_) (fun c138 => ?_)
          · rw [if_pos c138] at hf
            refine sp_goto (pc := 795) (tgt := 1665) dL_law_795 (by decide) ?_
            refine sp_iinc (pc := 1665) (v := v4 + 4) (lv' := [(4, .int (v4 + 4)), (6, .int y133.1), (5, .int y130.1), (0, .ref v0), (1, .ref v1), (2, .ref v2), (3, .ref v3)]) dL_law_1665 6 rfl rfl (by decide) rfl ?_
            refine sp_goto (pc := 1668) (tgt := 23) dL_law_1668 (by decide) ?_
            exact sp_sub [3, 4, 5, 6, 0] rfl (hk23 _ _ _ _ _ _ _ _ hf)
          · rw [if_neg c138] at hf
            refine sp_iconst (pc := 793) (v := 0) dL_law_793 (by decide) ?_
            obtain rfl := Option.some.inj hf
            exact sp_ireturn (pc := 794) dL_law_794 rfl rfl (hQ _ _)
      · rw [if_neg c135] at hf
        refine sp_iconst (pc := 776) (v := 0) dL_law_776 (by decide) ?_
        obtain rfl := Option.some.inj hf
        exact sp_ireturn (pc := 777) dL_law_777 rfl rfl (hQ _ _)
    rw [if_neg c129] at hf
    by_cases c139 : (x2 &&& 31) = 12
    · rw [if_pos c139] at hf
      refine sp_tableIn (pc := 39) (off := 759) (tgt := 798) dL_law_39 (by rw [c139]; decide) (by rw [c139]; decide) (by rw [c139]; rfl) (by decide) ?_
      refine sp_aload_n (pc := 798) dL_law_798 1 rfl ?_
      refine sp_aload_n (pc := 799) dL_law_799 0 rfl ?_
      refine sp_iload (pc := 800) dL_law_800 4 rfl ?_
      refine sp_iconst (pc := 802) (v := 1) dL_law_802 (by decide) ?_
      refine sp_iadd (pc := 803) dL_law_803 ?_
      obtain ⟨x140, ex140, hf⟩ := ob hf
      obtain ⟨g1x140, g2x140⟩ := sL_spec ex140
      refine sp_sld (pc := 804) hX dL_law_804 g1x140 ?_
      rw [g2x140]
      refine sp_aload_n (pc := 805) dL_law_805 3 rfl ?_
      obtain ⟨b142, eb142, hf⟩ := ob hf
      obtain ⟨b143, eb143, hf⟩ := ob hf
      obtain ⟨y141, ey141, hf⟩ := ob hf
      refine sp_callW (pc := 806) (hh9 := [(0, 9, 12, 28)]) (z := M_L_close) (As := [.ref v1, .int x140, .ref v3]) (bc2 := b142) (bs2 := b143) (m_L_close (Q := _) (fun sz => ⟨y141.1, rfl, ?_⟩) hlt ey141) dL_law_806 rfl bk_828 ck_L_law_141 (Nat.le_of_ble_eq_true rfl) (tk_spec eb142) (tk_spec eb143) rfl
      refine sp_istore (pc := 809) (lv' := [(5, .int y141.1), (0, .ref v0), (1, .ref v1), (2, .ref v2), (3, .ref v3), (4, .int v4)]) dL_law_809 (by decide) rfl ?_
      refine sp_aload_n (pc := 811) dL_law_811 3 rfl ?_
      refine sp_aload_n (pc := 812) dL_law_812 1 rfl ?_
      refine sp_iload (pc := 813) dL_law_813 5 rfl ?_
      refine sp_iconst (pc := 815) (v := 1) dL_law_815 (by decide) ?_
      refine sp_iadd (pc := 816) dL_law_816 ?_
      obtain ⟨x144, ex144, hf⟩ := ob hf
      obtain ⟨g1x144, g2x144⟩ := sL_spec ex144
      refine sp_sld (pc := 817) hX dL_law_817 g1x144 ?_
      rw [g2x144]
      obtain ⟨y145, ey145, hf⟩ := ob hf
      obtain ⟨fsy145, hoy145⟩ := o_X8_close ey145
      refine sp_callVi (pc := 818) (z := M_X8_close) (As := [.int x144]) (b := v2) (bc2 := b142) (bs2 := b143) (m_X8_close (Q := _) (fun sz => ⟨y145.1, rfl, ?_⟩) ey145) rfl dL_law_818 hoy145 rfl rfl ck_L_law_143 (Nat.le_of_ble_eq_true rfl) rfl rfl rfl
      refine sp_istore (pc := 821) (lv' := [(6, .int y145.1), (5, .int y141.1), (0, .ref v0), (1, .ref v1), (2, .ref v2), (3, .ref v3), (4, .int v4)]) dL_law_821 (by decide) rfl ?_
      refine sp_aload_n (pc := 823) dL_law_823 4 rfl ?_
      obtain ⟨y146, ey146, hf⟩ := ob hf
      obtain ⟨fsy146, hoy146⟩ := o_X8_thrown ey146
      refine sp_callVi (pc := 824) (z := M_X8_thrown) (As := []) (b := v2) (bc2 := b142) (bs2 := b143) (m_X8_thrown (Q := _) (fun sz => ⟨y146, rfl, ?_⟩) ey146) rfl dL_law_824 hoy146 rfl rfl ck_L_law_100 (Nat.le_of_ble_eq_true rfl) rfl rfl rfl
      refine sp_iload (pc := 827) dL_law_827 1 rfl ?_
      refine sp_icmp_eq (pc := 829) (tgt := 834) dL_law_829 (by decide) (fun c147 => ?_) (fun c147 => ?_)
      · rw [if_pos c147] at hf
        refine sp_iload (pc := 834) dL_law_834 1 rfl ?_
        refine sp_if_ne (pc := 836) (tgt := 851) dL_law_836 (by decide) (fun c148 => ?_) (fun c148 => ?_)
        · rw [if_neg c148] at hf
          refine sp_goto (pc := 851) (tgt := 1665) dL_law_851 (by decide) ?_
          refine sp_iinc (pc := 1665) (v := v4 + 4) (lv' := [(4, .int (v4 + 4)), (6, .int y145.1), (5, .int y141.1), (0, .ref v0), (1, .ref v1), (2, .ref v2), (3, .ref v3)]) dL_law_1665 6 rfl rfl (by decide) rfl ?_
          refine sp_goto (pc := 1668) (tgt := 23) dL_law_1668 (by decide) ?_
          exact sp_sub [3, 4, 5, 6, 0] rfl (hk23 _ _ _ _ _ _ _ _ hf)
        · rw [if_pos c148] at hf
          refine sp_aload_n (pc := 839) dL_law_839 5 rfl ?_
          refine sp_iconst (pc := 840) (v := 0) dL_law_840 (by decide) ?_
          obtain ⟨x149, ex149, hf⟩ := ob hf
          refine sp_aL (pc := 841) dL_law_841 ex149 ?_
          refine sp_iload (pc := 842) dL_law_842 0 rfl ?_
          refine sp_i2l (pc := 844) dL_law_844 ?_
          refine sp_lcmp (pc := 845) dL_law_845 ?_
          refine sp_if_eq (pc := 846) (tgt := 851) dL_law_846 (by decide) (fun c150 => ?_) (fun c150 => ?_)
          · rw [if_pos c150] at hf
            refine sp_goto (pc := 851) (tgt := 1665) dL_law_851 (by decide) ?_
            refine sp_iinc (pc := 1665) (v := v4 + 4) (lv' := [(4, .int (v4 + 4)), (6, .int y145.1), (5, .int y141.1), (0, .ref v0), (1, .ref v1), (2, .ref v2), (3, .ref v3)]) dL_law_1665 6 rfl rfl (by decide) rfl ?_
            refine sp_goto (pc := 1668) (tgt := 23) dL_law_1668 (by decide) ?_
            exact sp_sub [3, 4, 5, 6, 0] rfl (hk23 _ _ _ _ _ _ _ _ hf)
          · rw [if_neg c150] at hf
            refine sp_iconst (pc := 849) (v := 0) dL_law_849 (by decide) ?_
            obtain rfl := Option.some.inj hf
            exact sp_ireturn (pc := 850) dL_law_850 rfl rfl (hQ _ _)
      · rw [if_neg c147] at hf
        refine sp_iconst (pc := 832) (v := 0) dL_law_832 (by decide) ?_
        obtain rfl := Option.some.inj hf
        exact sp_ireturn (pc := 833) dL_law_833 rfl rfl (hQ _ _)
    rw [if_neg c139] at hf
    by_cases c151 : (x2 &&& 31) = 13
    · rw [if_pos c151] at hf
      refine sp_tableIn (pc := 39) (off := 815) (tgt := 854) dL_law_39 (by rw [c151]; decide) (by rw [c151]; decide) (by rw [c151]; rfl) (by decide) ?_
      refine sp_aload_n (pc := 854) dL_law_854 1 rfl ?_
      refine sp_aload_n (pc := 855) dL_law_855 3 rfl ?_
      obtain ⟨b153, eb153, hf⟩ := ob hf
      obtain ⟨b154, eb154, hf⟩ := ob hf
      obtain ⟨y152, ey152, hf⟩ := ob hf
      refine sp_callW (pc := 856) (hh9 := [(0, 8, 11, 15)]) (z := M_L_flush) (As := [.ref v1, .ref v3]) (bc2 := b153) (bs2 := b154) (m_L_flush (Q := _) (fun sz => ⟨y152.1, rfl, ?_⟩) hlt ey152) dL_law_856 rfl bk_836 ck_L_law_144 (Nat.le_of_ble_eq_true rfl) (tk_spec eb153) (tk_spec eb154) rfl
      refine sp_istore (pc := 859) (lv' := [(5, .int y152.1), (0, .ref v0), (1, .ref v1), (2, .ref v2), (3, .ref v3), (4, .int v4)]) dL_law_859 (by decide) rfl ?_
      refine sp_aload_n (pc := 861) dL_law_861 3 rfl ?_
      obtain ⟨y155, ey155, hf⟩ := ob hf
      obtain ⟨fsy155, hoy155⟩ := o_X8_flush ey155
      refine sp_callVi (pc := 862) (z := M_X8_flush) (As := []) (b := v2) (bc2 := b153) (bs2 := b154) (m_X8_flush (Q := _) (fun sz => ⟨y155.1, rfl, ?_⟩) ey155) rfl dL_law_862 hoy155 rfl rfl ck_L_law_146 (Nat.le_of_ble_eq_true rfl) rfl rfl rfl
      refine sp_istore (pc := 865) (lv' := [(6, .int y155.1), (5, .int y152.1), (0, .ref v0), (1, .ref v1), (2, .ref v2), (3, .ref v3), (4, .int v4)]) dL_law_865 (by decide) rfl ?_
      refine sp_aload_n (pc := 867) dL_law_867 4 rfl ?_
      obtain ⟨y156, ey156, hf⟩ := ob hf
      obtain ⟨fsy156, hoy156⟩ := o_X8_thrown ey156
      refine sp_callVi (pc := 868) (z := M_X8_thrown) (As := []) (b := v2) (bc2 := b153) (bs2 := b154) (m_X8_thrown (Q := _) (fun sz => ⟨y156, rfl, ?_⟩) ey156) rfl dL_law_868 hoy156 rfl rfl ck_L_law_100 (Nat.le_of_ble_eq_true rfl) rfl rfl rfl
      refine sp_iload (pc := 871) dL_law_871 1 rfl ?_
      refine sp_icmp_eq (pc := 873) (tgt := 878) dL_law_873 (by decide) (fun c157 => ?_) (fun c157 => ?_)
      · rw [if_pos c157] at hf
        refine sp_iload (pc := 878) dL_law_878 1 rfl ?_
        refine sp_if_ne (pc := 880) (tgt := 895) dL_law_880 (by decide) (fun c158 => ?_) (fun c158 => ?_)
        · rw [if_neg c158] at hf
          refine sp_goto (pc := 895) (tgt := 1665) dL_law_895 (by decide) ?_
          refine sp_iinc (pc := 1665) (v := v4 + 4) (lv' := [(4, .int (v4 + 4)), (6, .int y155.1), (5, .int y152.1), (0, .ref v0), (1, .ref v1), (2, .ref v2), (3, .ref v3)]) dL_law_1665 6 rfl rfl (by decide) rfl ?_
          refine sp_goto (pc := 1668) (tgt := 23) dL_law_1668 (by decide) ?_
          exact sp_sub [3, 4, 5, 6, 0] rfl (hk23 _ _ _ _ _ _ _ _ hf)
        · rw [if_pos c158] at hf
          refine sp_aload_n (pc := 883) dL_law_883 5 rfl ?_
          refine sp_iconst (pc := 884) (v := 0) dL_law_884 (by decide) ?_
          obtain ⟨x159, ex159, hf⟩ := ob hf
          refine sp_aL (pc := 885) dL_law_885 ex159 ?_
          refine sp_iload (pc := 886) dL_law_886 0 rfl ?_
          refine sp_i2l (pc := 888) dL_law_888 ?_
          refine sp_lcmp (pc := 889) dL_law_889 ?_
          refine sp_if_eq (pc := 890) (tgt := 895) dL_law_890 (by decide) (fun c160 => ?_) (fun c160 => ?_)
          · rw [if_pos c160] at hf
            refine sp_goto (pc := 895) (tgt := 1665) dL_law_895 (by decide) ?_
            refine sp_iinc (pc := 1665) (v := v4 + 4) (lv' := [(4, .int (v4 + 4)), (6, .int y155.1), (5, .int y152.1), (0, .ref v0), (1, .ref v1), (2, .ref v2), (3, .ref v3)]) dL_law_1665 6 rfl rfl (by decide) rfl ?_
            refine sp_goto (pc := 1668) (tgt := 23) dL_law_1668 (by decide) ?_
            exact sp_sub [3, 4, 5, 6, 0] rfl (hk23 _ _ _ _ _ _ _ _ hf)
          · rw [if_neg c160] at hf
            refine sp_iconst (pc := 893) (v := 0) dL_law_893 (by decide) ?_
            obtain rfl := Option.some.inj hf
            exact sp_ireturn (pc := 894) dL_law_894 rfl rfl (hQ _ _)
      · rw [if_neg c157] at hf
        refine sp_iconst (pc := 876) (v := 0) dL_law_876 (by decide) ?_
        obtain rfl := Option.some.inj hf
        exact sp_ireturn (pc := 877) dL_law_877 rfl rfl (hQ _ _)
    rw [if_neg c151] at hf
    by_cases c161 : (x2 &&& 31) = 14
    · rw [if_pos c161] at hf
      refine sp_tableIn (pc := 39) (off := 859) (tgt := 898) dL_law_39 (by rw [c161]; decide) (by rw [c161]; decide) (by rw [c161]; rfl) (by decide) ?_
      refine sp_aload_n (pc := 898) dL_law_898 1 rfl ?_
      refine sp_aload_n (pc := 899) dL_law_899 0 rfl ?_
      refine sp_iload (pc := 900) dL_law_900 4 rfl ?_
      refine sp_iconst (pc := 902) (v := 1) dL_law_902 (by decide) ?_
      refine sp_iadd (pc := 903) dL_law_903 ?_
      obtain ⟨x162, ex162, hf⟩ := ob hf
      obtain ⟨g1x162, g2x162⟩ := sL_spec ex162
      refine sp_sld (pc := 904) hX dL_law_904 g1x162 ?_
      rw [g2x162]
      refine sp_aload_n (pc := 905) dL_law_905 3 rfl ?_
      obtain ⟨b164, eb164, hf⟩ := ob hf
      obtain ⟨b165, eb165, hf⟩ := ob hf
      obtain ⟨y163, ey163, hf⟩ := ob hf
      refine sp_callW (pc := 906) (hh9 := [(0, 9, 12, 28), (0, 9, 15, 15)]) (z := M_L_merge) (As := [.ref v1, .int x162, .ref v3]) (bc2 := b164) (bs2 := b165) (m_L_merge (Q := _) (fun sz => ⟨y163.1, rfl, ?_⟩) hlt ey163) dL_law_906 rfl bk_845 ck_L_law_147 (Nat.le_of_ble_eq_true rfl) (tk_spec eb164) (tk_spec eb165) rfl
      refine sp_istore (pc := 909) (lv' := [(5, .int y163.1), (0, .ref v0), (1, .ref v1), (2, .ref v2), (3, .ref v3), (4, .int v4)]) dL_law_909 (by decide) rfl ?_
      refine sp_aload_n (pc := 911) dL_law_911 3 rfl ?_
      refine sp_aload_n (pc := 912) dL_law_912 1 rfl ?_
      refine sp_iload (pc := 913) dL_law_913 5 rfl ?_
      refine sp_iconst (pc := 915) (v := 1) dL_law_915 (by decide) ?_
      refine sp_iadd (pc := 916) dL_law_916 ?_
      obtain ⟨x166, ex166, hf⟩ := ob hf
      obtain ⟨g1x166, g2x166⟩ := sL_spec ex166
      refine sp_sld (pc := 917) hX dL_law_917 g1x166 ?_
      rw [g2x166]
      obtain ⟨y167, ey167, hf⟩ := ob hf
      obtain ⟨fsy167, hoy167⟩ := o_X8_merge ey167
      refine sp_callVi (pc := 918) (z := M_X8_merge) (As := [.int x166]) (b := v2) (bc2 := b164) (bs2 := b165) (m_X8_merge (Q := _) (fun sz => ⟨y167.1, rfl, ?_⟩) ey167) rfl dL_law_918 hoy167 rfl rfl ck_L_law_149 (Nat.le_of_ble_eq_true rfl) rfl rfl rfl
      refine sp_istore (pc := 921) (lv' := [(6, .int y167.1), (5, .int y163.1), (0, .ref v0), (1, .ref v1), (2, .ref v2), (3, .ref v3), (4, .int v4)]) dL_law_921 (by decide) rfl ?_
      refine sp_aload_n (pc := 923) dL_law_923 4 rfl ?_
      obtain ⟨y168, ey168, hf⟩ := ob hf
      obtain ⟨fsy168, hoy168⟩ := o_X8_thrown ey168
      refine sp_callVi (pc := 924) (z := M_X8_thrown) (As := []) (b := v2) (bc2 := b164) (bs2 := b165) (m_X8_thrown (Q := _) (fun sz => ⟨y168, rfl, ?_⟩) ey168) rfl dL_law_924 hoy168 rfl rfl ck_L_law_100 (Nat.le_of_ble_eq_true rfl) rfl rfl rfl
      refine sp_iload (pc := 927) dL_law_927 1 rfl ?_
      refine sp_icmp_eq (pc := 929) (tgt := 934) dL_law_929 (by decide) (fun c169 => ?_) (fun c169 => ?_)
      · rw [if_pos c169] at hf
        refine sp_iload (pc := 934) dL_law_934 1 rfl ?_
        refine sp_if_ne (pc := 936) (tgt := 951) dL_law_936 (by decide) (fun c170 => ?_) (fun c170 => ?_)
        · rw [if_neg c170] at hf
          refine sp_goto (pc := 951) (tgt := 1665) dL_law_951 (by decide) ?_
          refine sp_iinc (pc := 1665) (v := v4 + 4) (lv' := [(4, .int (v4 + 4)), (6, .int y167.1), (5, .int y163.1), (0, .ref v0), (1, .ref v1), (2, .ref v2), (3, .ref v3)]) dL_law_1665 6 rfl rfl (by decide) rfl ?_
          refine sp_goto (pc := 1668) (tgt := 23) dL_law_1668 (by decide) ?_
          exact sp_sub [3, 4, 5, 6, 0] rfl (hk23 _ _ _ _ _ _ _ _ hf)
        · rw [if_pos c170] at hf
          refine sp_aload_n (pc := 939) dL_law_939 5 rfl ?_
          refine sp_iconst (pc := 940) (v := 0) dL_law_940 (by decide) ?_
          obtain ⟨x171, ex171, hf⟩ := ob hf
          refine sp_aL (pc := 941) dL_law_941 ex171 ?_
          refine sp_iload (pc := 942) dL_law_942 0 rfl ?_
          refine sp_i2l (pc := 944) dL_law_944 ?_
          refine sp_lcmp (pc := 945) dL_law_945 ?_
          refine sp_if_eq (pc := 946) (tgt := 951) dL_law_946 (by decide) (fun c172 => ?_) (fun c172 => ?_)
          · rw [if_pos c172] at hf
            refine sp_goto (pc := 951) (tgt := 1665) dL_law_951 (by decide) ?_
            refine sp_iinc (pc := 1665) (v := v4 + 4) (lv' := [(4, .int (v4 + 4)), (6, .int y167.1), (5, .int y163.1), (0, .ref v0), (1, .ref v1), (2, .ref v2), (3, .ref v3)]) dL_law_1665 6 rfl rfl (by decide) rfl ?_
            refine sp_goto (pc := 1668) (tgt := 23) dL_law_1668 (by decide) ?_
            exact sp_sub [3, 4, 5, 6, 0] rfl (hk23 _ _ _ _ _ _ _ _ hf)
          · rw [if_neg c172] at hf
            refine sp_iconst (pc := 949) (v := 0) dL_law_949 (by decide) ?_
            obtain rfl := Option.some.inj hf
            exact sp_ireturn (pc := 950) dL_law_950 rfl rfl (hQ _ _)
      · rw [if_neg c169] at hf
        refine sp_iconst (pc := 932) (v := 0) dL_law_932 (by decide) ?_
        obtain rfl := Option.some.inj hf
        exact sp_ireturn (pc := 933) dL_law_933 rfl rfl (hQ _ _)
    rw [if_neg c161] at hf
    by_cases c173 : (x2 &&& 31) = 15
    · rw [if_pos c173] at hf
      refine sp_tableIn (pc := 39) (off := 915) (tgt := 954) dL_law_39 (by rw [c173]; decide) (by rw [c173]; decide) (by rw [c173]; rfl) (by decide) ?_
      refine sp_aload_n (pc := 954) dL_law_954 1 rfl ?_
      refine sp_aload_n (pc := 955) dL_law_955 3 rfl ?_
      obtain ⟨b175, eb175, hf⟩ := ob hf
      obtain ⟨b176, eb176, hf⟩ := ob hf
      obtain ⟨y174, ey174, hf⟩ := ob hf
      refine sp_callW (pc := 956) (hh9 := [(0, 8, 11, 15)]) (z := M_L_undo) (As := [.ref v1, .ref v3]) (bc2 := b175) (bs2 := b176) (m_L_undo (Q := _) (fun sz => ⟨y174.1, rfl, ?_⟩) hlt ey174) dL_law_956 rfl bk_854 ck_L_law_150 (Nat.le_of_ble_eq_true rfl) (tk_spec eb175) (tk_spec eb176) rfl
      refine sp_istore (pc := 959) (lv' := [(5, .int y174.1), (0, .ref v0), (1, .ref v1), (2, .ref v2), (3, .ref v3), (4, .int v4)]) dL_law_959 (by decide) rfl ?_
      refine sp_aload_n (pc := 961) dL_law_961 3 rfl ?_
      obtain ⟨y177, ey177, hf⟩ := ob hf
      obtain ⟨fsy177, hoy177⟩ := o_X8_undo ey177
      refine sp_callVi (pc := 962) (z := M_X8_undo) (As := []) (b := v2) (bc2 := b175) (bs2 := b176) (m_X8_undo (Q := _) (fun sz => ⟨y177.1, rfl, ?_⟩) ey177) rfl dL_law_962 hoy177 rfl rfl ck_L_law_152 (Nat.le_of_ble_eq_true rfl) rfl rfl rfl
      refine sp_istore (pc := 965) (lv' := [(6, .int y177.1), (5, .int y174.1), (0, .ref v0), (1, .ref v1), (2, .ref v2), (3, .ref v3), (4, .int v4)]) dL_law_965 (by decide) rfl ?_
      refine sp_aload_n (pc := 967) dL_law_967 4 rfl ?_
      obtain ⟨y178, ey178, hf⟩ := ob hf
      obtain ⟨fsy178, hoy178⟩ := o_X8_thrown ey178
      refine sp_callVi (pc := 968) (z := M_X8_thrown) (As := []) (b := v2) (bc2 := b175) (bs2 := b176) (m_X8_thrown (Q := _) (fun sz => ⟨y178, rfl, ?_⟩) ey178) rfl dL_law_968 hoy178 rfl rfl ck_L_law_100 (Nat.le_of_ble_eq_true rfl) rfl rfl rfl
      refine sp_iload (pc := 971) dL_law_971 1 rfl ?_
      refine sp_icmp_eq (pc := 973) (tgt := 978) dL_law_973 (by decide) (fun c179 => ?_) (fun c179 => ?_)
      · rw [if_pos c179] at hf
        refine sp_iload (pc := 978) dL_law_978 1 rfl ?_
        refine sp_if_ne (pc := 980) (tgt := 995) dL_law_980 (by decide) (fun c180 => ?_) (fun c180 => ?_)
        · rw [if_neg c180] at hf
          refine sp_goto (pc := 995) (tgt := 1665) dL_law_995 (by decide) ?_
          refine sp_iinc (pc := 1665) (v := v4 + 4) (lv' := [(4, .int (v4 + 4)), (6, .int y177.1), (5, .int y174.1), (0, .ref v0), (1, .ref v1), (2, .ref v2), (3, .ref v3)]) dL_law_1665 6 rfl rfl (by decide) rfl ?_
          refine sp_goto (pc := 1668) (tgt := 23) dL_law_1668 (by decide) ?_
          exact sp_sub [3, 4, 5, 6, 0] rfl (hk23 _ _ _ _ _ _ _ _ hf)
        · rw [if_pos c180] at hf
          refine sp_aload_n (pc := 983) dL_law_983 5 rfl ?_
          refine sp_iconst (pc := 984) (v := 0) dL_law_984 (by decide) ?_
          obtain ⟨x181, ex181, hf⟩ := ob hf
          refine sp_aL (pc := 985) dL_law_985 ex181 ?_
          refine sp_iload (pc := 986) dL_law_986 0 rfl ?_
          refine sp_i2l (pc := 988) dL_law_988 ?_
          refine sp_lcmp (pc := 989) dL_law_989 ?_
          refine sp_if_eq (pc := 990) (tgt := 995) dL_law_990 (by decide) (fun c182 => ?_) (fun c182 => ?_)
          · rw [if_pos c182] at hf
            refine sp_goto (pc := 995) (tgt := 1665) dL_law_995 (by decide) ?_
            refine sp_iinc (pc := 1665) (v := v4 + 4) (lv' := [(4, .int (v4 + 4)), (6, .int y177.1), (5, .int y174.1), (0, .ref v0), (1, .ref v1), (2, .ref v2), (3, .ref v3)]) dL_law_1665 6 rfl rfl (by decide) rfl ?_
            refine sp_goto (pc := 1668) (tgt := 23) dL_law_1668 (by decide) ?_
            exact sp_sub [3, 4, 5, 6, 0] rfl (hk23 _ _ _ _ _ _ _ _ hf)
          · rw [if_neg c182] at hf
            refine sp_iconst (pc := 993) (v := 0) dL_law_993 (by decide) ?_
            obtain rfl := Option.some.inj hf
            exact sp_ireturn (pc := 994) dL_law_994 rfl rfl (hQ _ _)
      · rw [if_neg c179] at hf
        refine sp_iconst (pc := 976) (v := 0) dL_law_976 (by decide) ?_
        obtain rfl := Option.some.inj hf
        exact sp_ireturn (pc := 977) dL_law_977 rfl rfl (hQ _ _)
    rw [if_neg c173] at hf
    by_cases c183 : (x2 &&& 31) = 16
    · rw [if_pos c183] at hf
      refine sp_tableIn (pc := 39) (off := 959) (tgt := 998) dL_law_39 (by rw [c183]; decide) (by rw [c183]; decide) (by rw [c183]; rfl) (by decide) ?_
      refine sp_aload_n (pc := 998) dL_law_998 1 rfl ?_
      refine sp_aload_n (pc := 999) dL_law_999 0 rfl ?_
      refine sp_iload (pc := 1000) dL_law_1000 4 rfl ?_
      refine sp_iconst (pc := 1002) (v := 1) dL_law_1002 (by decide) ?_
      refine sp_iadd (pc := 1003) dL_law_1003 ?_
      obtain ⟨x184, ex184, hf⟩ := ob hf
      obtain ⟨g1x184, g2x184⟩ := sL_spec ex184
      refine sp_sld (pc := 1004) hX dL_law_1004 g1x184 ?_
      rw [g2x184]
      refine sp_aload_n (pc := 1005) dL_law_1005 3 rfl ?_
      obtain ⟨b186, eb186, hf⟩ := ob hf
      obtain ⟨b187, eb187, hf⟩ := ob hf
      obtain ⟨y185, ey185, hf⟩ := ob hf
      refine sp_callW (pc := 1006) (hh9 := [(0, 9, 12, 28)]) (z := M_L_looks) (As := [.ref v1, .int x184, .ref v3]) (bc2 := b186) (bs2 := b187) (m_L_looks (Q := _) (fun sz => ⟨y185.1, rfl, ?_⟩) hlt ey185) dL_law_1006 rfl bk_870 ck_L_law_153 (Nat.le_of_ble_eq_true rfl) (tk_spec eb186) (tk_spec eb187) rfl
      refine sp_istore (pc := 1009) (lv' := [(5, .int y185.1), (0, .ref v0), (1, .ref v1), (2, .ref v2), (3, .ref v3), (4, .int v4)]) dL_law_1009 (by decide) rfl ?_
      refine sp_aload_n (pc := 1011) dL_law_1011 3 rfl ?_
      refine sp_aload_n (pc := 1012) dL_law_1012 1 rfl ?_
      refine sp_iload (pc := 1013) dL_law_1013 5 rfl ?_
      refine sp_iconst (pc := 1015) (v := 1) dL_law_1015 (by decide) ?_
      refine sp_iadd (pc := 1016) dL_law_1016 ?_
      obtain ⟨x188, ex188, hf⟩ := ob hf
      obtain ⟨g1x188, g2x188⟩ := sL_spec ex188
      refine sp_sld (pc := 1017) hX dL_law_1017 g1x188 ?_
      rw [g2x188]
      obtain ⟨y189, ey189, hf⟩ := ob hf
      obtain ⟨fsy189, hoy189⟩ := o_X8_looks ey189
      refine sp_callVi (pc := 1018) (z := M_X8_looks) (As := [.int x188]) (b := v2) (bc2 := b186) (bs2 := b187) (m_X8_looks (Q := _) (fun sz => ⟨y189.1, rfl, ?_⟩) ey189) rfl dL_law_1018 hoy189 rfl rfl ck_L_law_155 (Nat.le_of_ble_eq_true rfl) rfl rfl rfl
      refine sp_istore (pc := 1021) (lv' := [(6, .int y189.1), (5, .int y185.1), (0, .ref v0), (1, .ref v1), (2, .ref v2), (3, .ref v3), (4, .int v4)]) dL_law_1021 (by decide) rfl ?_
      refine sp_aload_n (pc := 1023) dL_law_1023 4 rfl ?_
      obtain ⟨y190, ey190, hf⟩ := ob hf
      obtain ⟨fsy190, hoy190⟩ := o_X8_thrown ey190
      refine sp_callVi (pc := 1024) (z := M_X8_thrown) (As := []) (b := v2) (bc2 := b186) (bs2 := b187) (m_X8_thrown (Q := _) (fun sz => ⟨y190, rfl, ?_⟩) ey190) rfl dL_law_1024 hoy190 rfl rfl ck_L_law_100 (Nat.le_of_ble_eq_true rfl) rfl rfl rfl
      refine sp_iload (pc := 1027) dL_law_1027 1 rfl ?_
      refine sp_icmp_eq (pc := 1029) (tgt := 1034) dL_law_1029 (by decide) (fun c191 => ?_) (fun c191 => ?_)
      · rw [if_pos c191] at hf
        refine sp_iload (pc := 1034) dL_law_1034 1 rfl ?_
        refine sp_if_ne (pc := 1036) (tgt := 1051) dL_law_1036 (by decide) (fun c192 => ?_) (fun c192 => ?_)
        · rw [if_neg c192] at hf
          refine sp_goto (pc := 1051) (tgt := 1665) dL_law_1051 (by decide) ?_
          refine sp_iinc (pc := 1665) (v := v4 + 4) (lv' := [(4, .int (v4 + 4)), (6, .int y189.1), (5, .int y185.1), (0, .ref v0), (1, .ref v1), (2, .ref v2), (3, .ref v3)]) dL_law_1665 6 rfl rfl (by decide) rfl ?_
          refine sp_goto (pc := 1668) (tgt := 23) dL_law_1668 (by decide) ?_
          exact sp_sub [3, 4, 5, 6, 0] rfl (hk23 _ _ _ _ _ _ _ _ hf)
        · rw [if_pos c192] at hf
          refine sp_aload_n (pc := 1039) dL_law_1039 5 rfl ?_
          refine sp_iconst (pc := 1040) (v := 0) dL_law_1040 (by decide) ?_
          obtain ⟨x193, ex193, hf⟩ := ob hf
          refine sp_aL (pc := 1041) dL_law_1041 ex193 ?_
          refine sp_iload (pc := 1042) dL_law_1042 0 rfl ?_
          refine sp_i2l (pc := 1044) dL_law_1044 ?_
          refine sp_lcmp (pc := 1045) dL_law_1045 ?_
          refine sp_if_eq (pc := 1046) (tgt := 1051) dL_law_1046 (by decide) (fun c194 => ?_) (fun c194 => ?_)
          · rw [if_pos c194] at hf
            refine sp_goto (pc := 1051) (tgt := 1665) dL_law_1051 (by decide) ?_
            refine sp_iinc (pc := 1665) (v := v4 + 4) (lv' := [(4, .int (v4 + 4)), (6, .int y189.1), (5, .int y185.1), (0, .ref v0), (1, .ref v1), (2, .ref v2), (3, .ref v3)]) dL_law_1665 6 rfl rfl (by decide) rfl ?_
            refine sp_goto (pc := 1668) (tgt := 23) dL_law_1668 (by decide) ?_
            exact sp_sub [3, 4, 5, 6, 0] rfl (hk23 _ _ _ _ _ _ _ _ hf)
          · rw [if_neg c194] at hf
            refine sp_iconst (pc := 1049) (v := 0) dL_law_1049 (by decide) ?_
            obtain rfl := Option.some.inj hf
            exact sp_ireturn (pc := 1050) dL_law_1050 rfl rfl (hQ _ _)
      · rw [if_neg c191] at hf
        refine sp_iconst (pc := 1032) (v := 0) dL_law_1032 (by decide) ?_
        obtain rfl := Option.some.inj hf
        exact sp_ireturn (pc := 1033) dL_law_1033 rfl rfl (hQ _ _)
    rw [if_neg c183] at hf
    by_cases c195 : (x2 &&& 31) = 17
    · rw [if_pos c195] at hf
      refine sp_tableIn (pc := 39) (off := 1015) (tgt := 1054) dL_law_39 (by rw [c195]; decide) (by rw [c195]; decide) (by rw [c195]; rfl) (by decide) ?_
      refine sp_aload_n (pc := 1054) dL_law_1054 1 rfl ?_
      refine sp_aload_n (pc := 1055) dL_law_1055 0 rfl ?_
      refine sp_iload (pc := 1056) dL_law_1056 4 rfl ?_
      refine sp_iconst (pc := 1058) (v := 1) dL_law_1058 (by decide) ?_
      refine sp_iadd (pc := 1059) dL_law_1059 ?_
      obtain ⟨x196, ex196, hf⟩ := ob hf
      obtain ⟨g1x196, g2x196⟩ := sL_spec ex196
      refine sp_sld (pc := 1060) hX dL_law_1060 g1x196 ?_
      rw [g2x196]
      refine sp_aload_n (pc := 1061) dL_law_1061 0 rfl ?_
      refine sp_iload (pc := 1062) dL_law_1062 4 rfl ?_
      refine sp_iconst (pc := 1064) (v := 2) dL_law_1064 (by decide) ?_
      refine sp_iadd (pc := 1065) dL_law_1065 ?_
      obtain ⟨x197, ex197, hf⟩ := ob hf
      obtain ⟨g1x197, g2x197⟩ := sL_spec ex197
      refine sp_sld (pc := 1066) hX dL_law_1066 g1x197 ?_
      rw [g2x197]
      refine sp_aload_n (pc := 1067) dL_law_1067 3 rfl ?_
      obtain ⟨b199, eb199, hf⟩ := ob hf
      obtain ⟨b200, eb200, hf⟩ := ob hf
      obtain ⟨y198, ey198, hf⟩ := ob hf
      refine sp_callW (pc := 1068) (hh9 := [(0, 10, 13, 28)]) (z := M_L_next) (As := [.ref v1, .int x196, .int x197, .ref v3]) (bc2 := b199) (bs2 := b200) (m_L_next (Q := _) (fun sz => ⟨y198.1, rfl, ?_⟩) hlt ey198) dL_law_1068 rfl bk_878 ck_L_law_156 (Nat.le_of_ble_eq_true rfl) (tk_spec eb199) (tk_spec eb200) rfl
      refine sp_istore (pc := 1071) (lv' := [(5, .int y198.1), (0, .ref v0), (1, .ref v1), (2, .ref v2), (3, .ref v3), (4, .int v4)]) dL_law_1071 (by decide) rfl ?_
      refine sp_aload_n (pc := 1073) dL_law_1073 3 rfl ?_
      refine sp_aload_n (pc := 1074) dL_law_1074 1 rfl ?_
      refine sp_iload (pc := 1075) dL_law_1075 5 rfl ?_
      refine sp_iconst (pc := 1077) (v := 1) dL_law_1077 (by decide) ?_
      refine sp_iadd (pc := 1078) dL_law_1078 ?_
      obtain ⟨x201, ex201, hf⟩ := ob hf
      obtain ⟨g1x201, g2x201⟩ := sL_spec ex201
      refine sp_sld (pc := 1079) hX dL_law_1079 g1x201 ?_
      rw [g2x201]
      refine sp_aload_n (pc := 1080) dL_law_1080 1 rfl ?_
      refine sp_iload (pc := 1081) dL_law_1081 5 rfl ?_
      refine sp_iconst (pc := 1083) (v := 2) dL_law_1083 (by decide) ?_
      refine sp_iadd (pc := 1084) dL_law_1084 ?_
      obtain ⟨x202, ex202, hf⟩ := ob hf
      obtain ⟨g1x202, g2x202⟩ := sL_spec ex202
      refine sp_sld (pc := 1085) hX dL_law_1085 g1x202 ?_
      rw [g2x202]
      obtain ⟨y203, ey203, hf⟩ := ob hf
      obtain ⟨fsy203, hoy203⟩ := o_X8_next ey203
      refine sp_callVi (pc := 1086) (z := M_X8_next) (As := [.int x201, .int x202]) (b := v2) (bc2 := b199) (bs2 := b200) (m_X8_next (Q := _) (fun sz => ⟨y203.1, rfl, ?_⟩) ey203) rfl dL_law_1086 hoy203 rfl rfl ck_L_law_158 (Nat.le_of_ble_eq_true rfl) rfl rfl rfl
      refine sp_istore (pc := 1089) (lv' := [(6, .int y203.1), (5, .int y198.1), (0, .ref v0), (1, .ref v1), (2, .ref v2), (3, .ref v3), (4, .int v4)]) dL_law_1089 (by decide) rfl ?_
      refine sp_aload_n (pc := 1091) dL_law_1091 4 rfl ?_
      obtain ⟨y204, ey204, hf⟩ := ob hf
      obtain ⟨fsy204, hoy204⟩ := o_X8_thrown ey204
      refine sp_callVi (pc := 1092) (z := M_X8_thrown) (As := []) (b := v2) (bc2 := b199) (bs2 := b200) (m_X8_thrown (Q := _) (fun sz => ⟨y204, rfl, ?_⟩) ey204) rfl dL_law_1092 hoy204 rfl rfl ck_L_law_100 (Nat.le_of_ble_eq_true rfl) rfl rfl rfl
      refine sp_iload (pc := 1095) dL_law_1095 1 rfl ?_
      refine sp_icmp_eq (pc := 1097) (tgt := 1102) dL_law_1097 (by decide) (fun c205 => ?_) (fun c205 => ?_)
      · rw [if_pos c205] at hf
        refine sp_iload (pc := 1102) dL_law_1102 1 rfl ?_
        refine sp_if_ne (pc := 1104) (tgt := 1119) dL_law_1104 (by decide) (fun c206 => ?_) (fun c206 => ?_)
        · rw [if_neg c206] at hf
          refine sp_goto (pc := 1119) (tgt := 1665) dL_law_1119 (by decide) ?_
          refine sp_iinc (pc := 1665) (v := v4 + 4) (lv' := [(4, .int (v4 + 4)), (6, .int y203.1), (5, .int y198.1), (0, .ref v0), (1, .ref v1), (2, .ref v2), (3, .ref v3)]) dL_law_1665 6 rfl rfl (by decide) rfl ?_
          refine sp_goto (pc := 1668) (tgt := 23) dL_law_1668 (by decide) ?_
          exact sp_sub [3, 4, 5, 6, 0] rfl (hk23 _ _ _ _ _ _ _ _ hf)
        · rw [if_pos c206] at hf
          refine sp_aload_n (pc := 1107) dL_law_1107 5 rfl ?_
          refine sp_iconst (pc := 1108) (v := 0) dL_law_1108 (by decide) ?_
          obtain ⟨x207, ex207, hf⟩ := ob hf
          refine sp_aL (pc := 1109) dL_law_1109 ex207 ?_
          refine sp_iload (pc := 1110) dL_law_1110 0 rfl ?_
          refine sp_i2l (pc := 1112) dL_law_1112 ?_
          refine sp_lcmp (pc := 1113) dL_law_1113 ?_
          refine sp_if_eq (pc := 1114) (tgt := 1119) dL_law_1114 (by decide) (fun c208 => ?_) (fun c208 => ?_)
          · rw [if_pos c208] at hf
            refine sp_goto (pc := 1119) (tgt := 1665) dL_law_1119 (by decide) ?_
            refine sp_iinc (pc := 1665) (v := v4 + 4) (lv' := [(4, .int (v4 + 4)), (6, .int y203.1), (5, .int y198.1), (0, .ref v0), (1, .ref v1), (2, .ref v2), (3, .ref v3)]) dL_law_1665 6 rfl rfl (by decide) rfl ?_
            refine sp_goto (pc := 1668) (tgt := 23) dL_law_1668 (by decide) ?_
            exact sp_sub [3, 4, 5, 6, 0] rfl (hk23 _ _ _ _ _ _ _ _ hf)
          · rw [if_neg c208] at hf
            refine sp_iconst (pc := 1117) (v := 0) dL_law_1117 (by decide) ?_
            obtain rfl := Option.some.inj hf
            exact sp_ireturn (pc := 1118) dL_law_1118 rfl rfl (hQ _ _)
      · rw [if_neg c205] at hf
        refine sp_iconst (pc := 1100) (v := 0) dL_law_1100 (by decide) ?_
        obtain rfl := Option.some.inj hf
        exact sp_ireturn (pc := 1101) dL_law_1101 rfl rfl (hQ _ _)
    rw [if_neg c195] at hf
    by_cases c209 : (x2 &&& 31) = 18
    · rw [if_pos c209] at hf
      refine sp_tableIn (pc := 39) (off := 1083) (tgt := 1122) dL_law_39 (by rw [c209]; decide) (by rw [c209]; decide) (by rw [c209]; rfl) (by decide) ?_
      refine sp_aload_n (pc := 1122) dL_law_1122 1 rfl ?_
      refine sp_aload_n (pc := 1123) dL_law_1123 0 rfl ?_
      refine sp_iload (pc := 1124) dL_law_1124 4 rfl ?_
      refine sp_iconst (pc := 1126) (v := 1) dL_law_1126 (by decide) ?_
      refine sp_iadd (pc := 1127) dL_law_1127 ?_
      obtain ⟨x210, ex210, hf⟩ := ob hf
      obtain ⟨g1x210, g2x210⟩ := sL_spec ex210
      refine sp_sld (pc := 1128) hX dL_law_1128 g1x210 ?_
      rw [g2x210]
      refine sp_aload_n (pc := 1129) dL_law_1129 0 rfl ?_
      refine sp_iload (pc := 1130) dL_law_1130 4 rfl ?_
      refine sp_iconst (pc := 1132) (v := 2) dL_law_1132 (by decide) ?_
      refine sp_iadd (pc := 1133) dL_law_1133 ?_
      obtain ⟨x211, ex211, hf⟩ := ob hf
      obtain ⟨g1x211, g2x211⟩ := sL_spec ex211
      refine sp_sld (pc := 1134) hX dL_law_1134 g1x211 ?_
      rw [g2x211]
      refine sp_aload_n (pc := 1135) dL_law_1135 0 rfl ?_
      refine sp_iload (pc := 1136) dL_law_1136 4 rfl ?_
      refine sp_iconst (pc := 1138) (v := 3) dL_law_1138 (by decide) ?_
      refine sp_iadd (pc := 1139) dL_law_1139 ?_
      obtain ⟨x212, ex212, hf⟩ := ob hf
      obtain ⟨g1x212, g2x212⟩ := sL_spec ex212
      refine sp_sld (pc := 1140) hX dL_law_1140 g1x212 ?_
      rw [g2x212]
      refine sp_aload_n (pc := 1141) dL_law_1141 3 rfl ?_
      obtain ⟨b214, eb214, hf⟩ := ob hf
      obtain ⟨b215, eb215, hf⟩ := ob hf
      obtain ⟨y213, ey213, hf⟩ := ob hf
      refine sp_callW (pc := 1142) (hh9 := [(0, 12, 15, 28), (0, 12, 19, 13)]) (z := M_L_count) (As := [.ref v1, .int x210, .int x211, .int x212, .ref v3]) (bc2 := b214) (bs2 := b215) (m_L_count (Q := _) (fun sz => ⟨y213.1, rfl, ?_⟩) hlt ey213) dL_law_1142 rfl bk_889 ck_L_law_159 (Nat.le_of_ble_eq_true rfl) (tk_spec eb214) (tk_spec eb215) rfl
      refine sp_istore (pc := 1145) (lv' := [(5, .int y213.1), (0, .ref v0), (1, .ref v1), (2, .ref v2), (3, .ref v3), (4, .int v4)]) dL_law_1145 (by decide) rfl ?_
      refine sp_aload_n (pc := 1147) dL_law_1147 3 rfl ?_
      refine sp_aload_n (pc := 1148) dL_law_1148 1 rfl ?_
      refine sp_iload (pc := 1149) dL_law_1149 5 rfl ?_
      refine sp_iconst (pc := 1151) (v := 1) dL_law_1151 (by decide) ?_
      refine sp_iadd (pc := 1152) dL_law_1152 ?_
      obtain ⟨x216, ex216, hf⟩ := ob hf
      obtain ⟨g1x216, g2x216⟩ := sL_spec ex216
      refine sp_sld (pc := 1153) hX dL_law_1153 g1x216 ?_
      rw [g2x216]
      refine sp_aload_n (pc := 1154) dL_law_1154 1 rfl ?_
      refine sp_iload (pc := 1155) dL_law_1155 5 rfl ?_
      refine sp_iconst (pc := 1157) (v := 2) dL_law_1157 (by decide) ?_
      refine sp_iadd (pc := 1158) dL_law_1158 ?_
      obtain ⟨x217, ex217, hf⟩ := ob hf
      obtain ⟨g1x217, g2x217⟩ := sL_spec ex217
      refine sp_sld (pc := 1159) hX dL_law_1159 g1x217 ?_
      rw [g2x217]
      refine sp_aload_n (pc := 1160) dL_law_1160 1 rfl ?_
      refine sp_iload (pc := 1161) dL_law_1161 5 rfl ?_
      refine sp_iconst (pc := 1163) (v := 3) dL_law_1163 (by decide) ?_
      refine sp_iadd (pc := 1164) dL_law_1164 ?_
      obtain ⟨x218, ex218, hf⟩ := ob hf
      obtain ⟨g1x218, g2x218⟩ := sL_spec ex218
      refine sp_sld (pc := 1165) hX dL_law_1165 g1x218 ?_
      rw [g2x218]
      obtain ⟨y219, ey219, hf⟩ := ob hf
      obtain ⟨fsy219, hoy219⟩ := o_X8_count ey219
      refine sp_callVi (pc := 1166) (z := M_X8_count) (As := [.int x216, .int x217, .int x218]) (b := v2) (bc2 := b214) (bs2 := b215) (m_X8_count (Q := _) (fun sz => ⟨y219.1, rfl, ?_⟩) ey219) rfl dL_law_1166 hoy219 rfl rfl ck_L_law_161 (Nat.le_of_ble_eq_true rfl) rfl rfl rfl
      refine sp_istore (pc := 1169) (lv' := [(6, .int y219.1), (5, .int y213.1), (0, .ref v0), (1, .ref v1), (2, .ref v2), (3, .ref v3), (4, .int v4)]) dL_law_1169 (by decide) rfl ?_
      refine sp_aload_n (pc := 1171) dL_law_1171 4 rfl ?_
      obtain ⟨y220, ey220, hf⟩ := ob hf
      obtain ⟨fsy220, hoy220⟩ := o_X8_thrown ey220
      refine sp_callVi (pc := 1172) (z := M_X8_thrown) (As := []) (b := v2) (bc2 := b214) (bs2 := b215) (m_X8_thrown (Q := _) (fun sz => ⟨y220, rfl, ?_⟩) ey220) rfl dL_law_1172 hoy220 rfl rfl ck_L_law_100 (Nat.le_of_ble_eq_true rfl) rfl rfl rfl
      refine sp_iload (pc := 1175) dL_law_1175 1 rfl ?_
      refine sp_icmp_eq (pc := 1177) (tgt := 1182) dL_law_1177 (by decide) (fun c221 => ?_) (fun c221 => ?_)
      · rw [if_pos c221] at hf
        refine sp_iload (pc := 1182) dL_law_1182 1 rfl ?_
        refine sp_if_ne (pc := 1184) (tgt := 1199) dL_law_1184 (by decide) (fun c222 => ?_) (fun c222 => ?_)
        · rw [if_neg c222] at hf
          refine sp_goto (pc := 1199) (tgt := 1665) dL_law_1199 (by decide) ?_
          refine sp_iinc (pc := 1665) (v := v4 + 4) (lv' := [(4, .int (v4 + 4)), (6, .int y219.1), (5, .int y213.1), (0, .ref v0), (1, .ref v1), (2, .ref v2), (3, .ref v3)]) dL_law_1665 6 rfl rfl (by decide) rfl ?_
          refine sp_goto (pc := 1668) (tgt := 23) dL_law_1668 (by decide) ?_
          exact sp_sub [3, 4, 5, 6, 0] rfl (hk23 _ _ _ _ _ _ _ _ hf)
        · rw [if_pos c222] at hf
          refine sp_aload_n (pc := 1187) dL_law_1187 5 rfl ?_
          refine sp_iconst (pc := 1188) (v := 0) dL_law_1188 (by decide) ?_
          obtain ⟨x223, ex223, hf⟩ := ob hf
          refine sp_aL (pc := 1189) dL_law_1189 ex223 ?_
          refine sp_iload (pc := 1190) dL_law_1190 0 rfl ?_
          refine sp_i2l (pc := 1192) dL_law_1192 ?_
          refine sp_lcmp (pc := 1193) dL_law_1193 ?_
          refine sp_if_eq (pc := 1194) (tgt := 1199) dL_law_1194 (by decide) (fun c224 => ?_) (fun c224 => ?_)
          · rw [if_pos c224] at hf
            refine sp_goto (pc := 1199) (tgt := 1665) dL_law_1199 (by decide) ?_
            refine sp_iinc (pc := 1665) (v := v4 + 4) (lv' := [(4, .int (v4 + 4)), (6, .int y219.1), (5, .int y213.1), (0, .ref v0), (1, .ref v1), (2, .ref v2), (3, .ref v3)]) dL_law_1665 6 rfl rfl (by decide) rfl ?_
            refine sp_goto (pc := 1668) (tgt := 23) dL_law_1668 (by decide) ?_
            exact sp_sub [3, 4, 5, 6, 0] rfl (hk23 _ _ _ _ _ _ _ _ hf)
          · rw [if_neg c224] at hf
            refine sp_iconst (pc := 1197) (v := 0) dL_law_1197 (by decide) ?_
            obtain rfl := Option.some.inj hf
            exact sp_ireturn (pc := 1198) dL_law_1198 rfl rfl (hQ _ _)
      · rw [if_neg c221] at hf
        refine sp_iconst (pc := 1180) (v := 0) dL_law_1180 (by decide) ?_
        obtain rfl := Option.some.inj hf
        exact sp_ireturn (pc := 1181) dL_law_1181 rfl rfl (hQ _ _)
    rw [if_neg c209] at hf
    by_cases c225 : (x2 &&& 31) = 19
    · rw [if_pos c225] at hf
      refine sp_tableIn (pc := 39) (off := 1163) (tgt := 1202) dL_law_39 (by rw [c225]; decide) (by rw [c225]; decide) (by rw [c225]; rfl) (by decide) ?_
      refine sp_aload_n (pc := 1202) dL_law_1202 1 rfl ?_
      obtain ⟨y226, ey226, hf⟩ := ob hf
      obtain ⟨fsy226, hoy226⟩ := o_X7_hidden ey226
      refine sp_callVi (pc := 1203) (z := M_X7_hidden) (As := []) (b := v1) (bc2 := bc) (bs2 := bs) (m_X7_hidden (Q := _) (fun sz => ⟨y226, rfl, ?_⟩) ey226) rfl dL_law_1203 hoy226 rfl rfl ck_L_law_162 (Nat.le_of_ble_eq_true rfl) rfl rfl rfl
      refine sp_aload_n (pc := 1206) dL_law_1206 2 rfl ?_
      obtain ⟨y227, ey227, hf⟩ := ob hf
      obtain ⟨fsy227, hoy227⟩ := o_X8_hidden ey227
      refine sp_callVi (pc := 1207) (z := M_X8_hidden) (As := []) (b := v2) (bc2 := bc) (bs2 := bs) (m_X8_hidden (Q := _) (fun sz => ⟨y227.1, rfl, ?_⟩) ey227) rfl dL_law_1207 hoy227 rfl rfl ck_L_law_165 (Nat.le_of_ble_eq_true rfl) rfl rfl rfl
      refine sp_icmp_eq (pc := 1210) (tgt := 1665) dL_law_1210 (by decide) (fun c228 => ?_) (fun c228 => ?_)
      · rw [if_pos c228] at hf
        refine sp_iinc (pc := 1665) (v := v4 + 4) (lv' := [(4, .int (v4 + 4)), (0, .ref v0), (1, .ref v1), (2, .ref v2), (3, .ref v3)]) dL_law_1665 4 rfl rfl (by decide) rfl ?_
        refine sp_goto (pc := 1668) (tgt := 23) dL_law_1668 (by decide) ?_
        exact sp_sub [1, 2, 3, 4, 0] rfl (hk23 _ _ _ _ _ _ _ _ hf)
      · rw [if_neg c228] at hf
        refine sp_iconst (pc := 1213) (v := 0) dL_law_1213 (by decide) ?_
        obtain rfl := Option.some.inj hf
        exact sp_ireturn (pc := 1214) dL_law_1214 rfl rfl (hQ _ _)
    rw [if_neg c225] at hf
    by_cases c229 : (x2 &&& 31) = 20
    · rw [if_pos c229] at hf
      refine sp_tableIn (pc := 39) (off := 1176) (tgt := 1215) dL_law_39 (by rw [c229]; decide) (by rw [c229]; decide) (by rw [c229]; rfl) (by decide) ?_
      refine sp_aload_n (pc := 1215) dL_law_1215 1 rfl ?_
      refine sp_aload_n (pc := 1216) dL_law_1216 0 rfl ?_
      refine sp_iload (pc := 1217) dL_law_1217 4 rfl ?_
      refine sp_iconst (pc := 1219) (v := 1) dL_law_1219 (by decide) ?_
      refine sp_iadd (pc := 1220) dL_law_1220 ?_
      obtain ⟨x230, ex230, hf⟩ := ob hf
      obtain ⟨g1x230, g2x230⟩ := sL_spec ex230
      refine sp_sld (pc := 1221) hX dL_law_1221 g1x230 ?_
      rw [g2x230]
      refine sp_aload_n (pc := 1222) dL_law_1222 3 rfl ?_
      obtain ⟨b232, eb232, hf⟩ := ob hf
      obtain ⟨b233, eb233, hf⟩ := ob hf
      obtain ⟨y231, ey231, hf⟩ := ob hf
      refine sp_callW (pc := 1223) (hh9 := [(0, 9, 12, 28)]) (z := M_L_grave) (As := [.ref v1, .int x230, .ref v3]) (bc2 := b232) (bs2 := b233) (m_L_grave (Q := _) (fun sz => ⟨y231.1, rfl, ?_⟩) hlt ey231) dL_law_1223 rfl bk_896 ck_L_law_166 (Nat.le_of_ble_eq_true rfl) (tk_spec eb232) (tk_spec eb233) rfl
      refine sp_istore (pc := 1226) (lv' := [(5, .int y231.1), (0, .ref v0), (1, .ref v1), (2, .ref v2), (3, .ref v3), (4, .int v4)]) dL_law_1226 (by decide) rfl ?_
      refine sp_aload_n (pc := 1228) dL_law_1228 3 rfl ?_
      refine sp_aload_n (pc := 1229) dL_law_1229 1 rfl ?_
      refine sp_iload (pc := 1230) dL_law_1230 5 rfl ?_
      refine sp_iconst (pc := 1232) (v := 1) dL_law_1232 (by decide) ?_
      refine sp_iadd (pc := 1233) dL_law_1233 ?_
      obtain ⟨x234, ex234, hf⟩ := ob hf
      obtain ⟨g1x234, g2x234⟩ := sL_spec ex234
      refine sp_sld (pc := 1234) hX dL_law_1234 g1x234 ?_
      rw [g2x234]
      obtain ⟨y235, ey235, hf⟩ := ob hf
      obtain ⟨fsy235, hoy235⟩ := o_X8_grave ey235
      refine sp_callVi (pc := 1235) (z := M_X8_grave) (As := [.int x234]) (b := v2) (bc2 := b232) (bs2 := b233) (m_X8_grave (Q := _) (fun sz => ⟨y235.1, rfl, ?_⟩) ey235) rfl dL_law_1235 hoy235 rfl rfl ck_L_law_168 (Nat.le_of_ble_eq_true rfl) rfl rfl rfl
      refine sp_istore (pc := 1238) (lv' := [(6, .int y235.1), (5, .int y231.1), (0, .ref v0), (1, .ref v1), (2, .ref v2), (3, .ref v3), (4, .int v4)]) dL_law_1238 (by decide) rfl ?_
      refine sp_aload_n (pc := 1240) dL_law_1240 4 rfl ?_
      obtain ⟨y236, ey236, hf⟩ := ob hf
      obtain ⟨fsy236, hoy236⟩ := o_X8_thrown ey236
      refine sp_callVi (pc := 1241) (z := M_X8_thrown) (As := []) (b := v2) (bc2 := b232) (bs2 := b233) (m_X8_thrown (Q := _) (fun sz => ⟨y236, rfl, ?_⟩) ey236) rfl dL_law_1241 hoy236 rfl rfl ck_L_law_100 (Nat.le_of_ble_eq_true rfl) rfl rfl rfl
      refine sp_iload (pc := 1244) dL_law_1244 1 rfl ?_
      refine sp_icmp_eq (pc := 1246) (tgt := 1251) dL_law_1246 (by decide) (fun c237 => ?_) (fun c237 => ?_)
      · rw [if_pos c237] at hf
        refine sp_iload (pc := 1251) dL_law_1251 1 rfl ?_
        refine sp_if_ne (pc := 1253) (tgt := 1268) dL_law_1253 (by decide) (fun c238 => ?_) (fun c238 => ?_)
        · rw [if_neg c238] at hf
          refine sp_goto (pc := 1268) (tgt := 1665) dL_law_1268 (by decide) ?_
          refine sp_iinc (pc := 1665) (v := v4 + 4) (lv' := [(4, .int (v4 + 4)), (6, .int y235.1), (5, .int y231.1), (0, .ref v0), (1, .ref v1), (2, .ref v2), (3, .ref v3)]) dL_law_1665 6 rfl rfl (by decide) rfl ?_
          refine sp_goto (pc := 1668) (tgt := 23) dL_law_1668 (by decide) ?_
          exact sp_sub [3, 4, 5, 6, 0] rfl (hk23 _ _ _ _ _ _ _ _ hf)
        · rw [if_pos c238] at hf
          refine sp_aload_n (pc := 1256) dL_law_1256 5 rfl ?_
          refine sp_iconst (pc := 1257) (v := 0) dL_law_1257 (by decide) ?_
          obtain ⟨x239, ex239, hf⟩ := ob hf
          refine sp_aL (pc := 1258) dL_law_1258 ex239 ?_
          refine sp_iload (pc := 1259) dL_law_1259 0 rfl ?_
          refine sp_i2l (pc := 1261) dL_law_1261 ?_
          refine sp_lcmp (pc := 1262) dL_law_1262 ?_
          refine sp_if_eq (pc := 1263) (tgt := 1268) dL_law_1263 (by decide) (fun c240 => ?_) (fun c240 => ?_)
          · rw [if_pos c240] at hf
            refine sp_goto (pc := 1268) (tgt := 1665) dL_law_1268 (by decide) ?_
            refine sp_iinc (pc := 1665) (v := v4 + 4) (lv' := [(4, .int (v4 + 4)), (6, .int y235.1), (5, .int y231.1), (0, .ref v0), (1, .ref v1), (2, .ref v2), (3, .ref v3)]) dL_law_1665 6 rfl rfl (by decide) rfl ?_
            refine sp_goto (pc := 1668) (tgt := 23) dL_law_1668 (by decide) ?_
            exact sp_sub [3, 4, 5, 6, 0] rfl (hk23 _ _ _ _ _ _ _ _ hf)
          · rw [if_neg c240] at hf
            refine sp_iconst (pc := 1266) (v := 0) dL_law_1266 (by decide) ?_
            obtain rfl := Option.some.inj hf
            exact sp_ireturn (pc := 1267) dL_law_1267 rfl rfl (hQ _ _)
      · rw [if_neg c237] at hf
        refine sp_iconst (pc := 1249) (v := 0) dL_law_1249 (by decide) ?_
        obtain rfl := Option.some.inj hf
        exact sp_ireturn (pc := 1250) dL_law_1250 rfl rfl (hQ _ _)
    rw [if_neg c229] at hf
    by_cases c241 : (x2 &&& 31) = 21
    · rw [if_pos c241] at hf
      refine sp_tableIn (pc := 39) (off := 1232) (tgt := 1271) dL_law_39 (by rw [c241]; decide) (by rw [c241]; decide) (by rw [c241]; rfl) (by decide) ?_
      refine sp_aload_n (pc := 1271) dL_law_1271 1 rfl ?_
      refine sp_aload_n (pc := 1272) dL_law_1272 0 rfl ?_
      refine sp_iload (pc := 1273) dL_law_1273 4 rfl ?_
      refine sp_iconst (pc := 1275) (v := 1) dL_law_1275 (by decide) ?_
      refine sp_iadd (pc := 1276) dL_law_1276 ?_
      obtain ⟨x242, ex242, hf⟩ := ob hf
      obtain ⟨g1x242, g2x242⟩ := sL_spec ex242
      refine sp_sld (pc := 1277) hX dL_law_1277 g1x242 ?_
      rw [g2x242]
      refine sp_aload_n (pc := 1278) dL_law_1278 3 rfl ?_
      obtain ⟨b244, eb244, hf⟩ := ob hf
      obtain ⟨b245, eb245, hf⟩ := ob hf
      obtain ⟨y243, ey243, hf⟩ := ob hf
      refine sp_callW (pc := 1279) (hh9 := [(0, 9, 12, 28), (0, 9, 15, 15)]) (z := M_L_saves) (As := [.ref v1, .int x242, .ref v3]) (bc2 := b244) (bs2 := b245) (m_L_saves (Q := _) (fun sz => ⟨y243.1, rfl, ?_⟩) hlt ey243) dL_law_1279 rfl bk_904 ck_L_law_169 (Nat.le_of_ble_eq_true rfl) (tk_spec eb244) (tk_spec eb245) rfl
      refine sp_istore (pc := 1282) (lv' := [(5, .int y243.1), (0, .ref v0), (1, .ref v1), (2, .ref v2), (3, .ref v3), (4, .int v4)]) dL_law_1282 (by decide) rfl ?_
      refine sp_aload_n (pc := 1284) dL_law_1284 3 rfl ?_
      refine sp_aload_n (pc := 1285) dL_law_1285 1 rfl ?_
      refine sp_iload (pc := 1286) dL_law_1286 5 rfl ?_
      refine sp_iconst (pc := 1288) (v := 1) dL_law_1288 (by decide) ?_
      refine sp_iadd (pc := 1289) dL_law_1289 ?_
      obtain ⟨x246, ex246, hf⟩ := ob hf
      obtain ⟨g1x246, g2x246⟩ := sL_spec ex246
      refine sp_sld (pc := 1290) hX dL_law_1290 g1x246 ?_
      rw [g2x246]
      obtain ⟨y247, ey247, hf⟩ := ob hf
      obtain ⟨fsy247, hoy247⟩ := o_X8_saves ey247
      refine sp_callVi (pc := 1291) (z := M_X8_saves) (As := [.int x246]) (b := v2) (bc2 := b244) (bs2 := b245) (m_X8_saves (Q := _) (fun sz => ⟨y247.1, rfl, ?_⟩) ey247) rfl dL_law_1291 hoy247 rfl rfl ck_L_law_171 (Nat.le_of_ble_eq_true rfl) rfl rfl rfl
      refine sp_istore (pc := 1294) (lv' := [(6, .int y247.1), (5, .int y243.1), (0, .ref v0), (1, .ref v1), (2, .ref v2), (3, .ref v3), (4, .int v4)]) dL_law_1294 (by decide) rfl ?_
      refine sp_aload_n (pc := 1296) dL_law_1296 4 rfl ?_
      obtain ⟨y248, ey248, hf⟩ := ob hf
      obtain ⟨fsy248, hoy248⟩ := o_X8_thrown ey248
      refine sp_callVi (pc := 1297) (z := M_X8_thrown) (As := []) (b := v2) (bc2 := b244) (bs2 := b245) (m_X8_thrown (Q := _) (fun sz => ⟨y248, rfl, ?_⟩) ey248) rfl dL_law_1297 hoy248 rfl rfl ck_L_law_100 (Nat.le_of_ble_eq_true rfl) rfl rfl rfl
      refine sp_iload (pc := 1300) dL_law_1300 1 rfl ?_
      refine sp_icmp_eq (pc := 1302) (tgt := 1307) dL_law_1302 (by decide) (fun c249 => ?_) (fun c249 => ?_)
      · rw [if_pos c249] at hf
        refine sp_iload (pc := 1307) dL_law_1307 1 rfl ?_
        refine sp_if_ne (pc := 1309) (tgt := 1324) dL_law_1309 (by decide) (fun c250 => ?_) (fun c250 => ?_)
        · rw [if_neg c250] at hf
          refine sp_goto (pc := 1324) (tgt := 1665) dL_law_1324 (by decide) ?_
          refine sp_iinc (pc := 1665) (v := v4 + 4) (lv' := [(4, .int (v4 + 4)), (6, .int y247.1), (5, .int y243.1), (0, .ref v0), (1, .ref v1), (2, .ref v2), (3, .ref v3)]) dL_law_1665 6 rfl rfl (by decide) rfl ?_
          refine sp_goto (pc := 1668) (tgt := 23) dL_law_1668 (by decide) ?_
          exact sp_sub [3, 4, 5, 6, 0] rfl (hk23 _ _ _ _ _ _ _ _ hf)
        · rw [if_pos c250] at hf
          refine sp_aload_n (pc := 1312) dL_law_1312 5 rfl ?_
          refine sp_iconst (pc := 1313) (v := 0) dL_law_1313 (by decide) ?_
          obtain ⟨x251, ex251, hf⟩ := ob hf
          refine sp_aL (pc := 1314) dL_law_1314 ex251 ?_
          refine sp_iload (pc := 1315) dL_law_1315 0 rfl ?_
          refine sp_i2l (pc := 1317) dL_law_1317 ?_
          refine sp_lcmp (pc := 1318) dL_law_1318 ?_
          refine sp_if_eq (pc := 1319) (tgt := 1324) dL_law_1319 (by decide) (fun c252 => ?_) (fun c252 => ?_)
          · rw [if_pos c252] at hf
            refine sp_goto (pc := 1324) (tgt := 1665) dL_law_1324 (by decide) ?_
            refine sp_iinc (pc := 1665) (v := v4 + 4) (lv' := [(4, .int (v4 + 4)), (6, .int y247.1), (5, .int y243.1), (0, .ref v0), (1, .ref v1), (2, .ref v2), (3, .ref v3)]) dL_law_1665 6 rfl rfl (by decide) rfl ?_
            refine sp_goto (pc := 1668) (tgt := 23) dL_law_1668 (by decide) ?_
            exact sp_sub [3, 4, 5, 6, 0] rfl (hk23 _ _ _ _ _ _ _ _ hf)
          · rw [if_neg c252] at hf
            refine sp_iconst (pc := 1322) (v := 0) dL_law_1322 (by decide) ?_
            obtain rfl := Option.some.inj hf
            exact sp_ireturn (pc := 1323) dL_law_1323 rfl rfl (hQ _ _)
      · rw [if_neg c249] at hf
        refine sp_iconst (pc := 1305) (v := 0) dL_law_1305 (by decide) ?_
        obtain rfl := Option.some.inj hf
        exact sp_ireturn (pc := 1306) dL_law_1306 rfl rfl (hQ _ _)
    rw [if_neg c241] at hf
    by_cases c253 : (x2 &&& 31) = 22
    · rw [if_pos c253] at hf
      refine sp_tableIn (pc := 39) (off := 1288) (tgt := 1327) dL_law_39 (by rw [c253]; decide) (by rw [c253]; decide) (by rw [c253]; rfl) (by decide) ?_
      refine sp_aload_n (pc := 1327) dL_law_1327 1 rfl ?_
      obtain ⟨y254, ey254, hf⟩ := ob hf
      obtain ⟨fsy254, hoy254⟩ := o_X7_best ey254
      refine sp_callVi (pc := 1328) (z := M_X7_best) (As := []) (b := v1) (bc2 := bc) (bs2 := bs) (m_X7_best (Q := _) (fun sz => ⟨y254.1, rfl, ?_⟩) ey254) rfl dL_law_1328 hoy254 rfl rfl ck_L_law_172 (Nat.le_of_ble_eq_true rfl) rfl rfl rfl
      refine sp_aload_n (pc := 1331) dL_law_1331 2 rfl ?_
      obtain ⟨y255, ey255, hf⟩ := ob hf
      obtain ⟨fsy255, hoy255⟩ := o_X8_best ey255
      refine sp_callVi (pc := 1332) (z := M_X8_best) (As := []) (b := v2) (bc2 := bc) (bs2 := bs) (m_X8_best (Q := _) (fun sz => ⟨y255.1, rfl, ?_⟩) ey255) rfl dL_law_1332 hoy255 rfl rfl ck_L_law_175 (Nat.le_of_ble_eq_true rfl) rfl rfl rfl
      refine sp_icmp_eq (pc := 1335) (tgt := 1665) dL_law_1335 (by decide) (fun c256 => ?_) (fun c256 => ?_)
      · rw [if_pos c256] at hf
        refine sp_iinc (pc := 1665) (v := v4 + 4) (lv' := [(4, .int (v4 + 4)), (0, .ref v0), (1, .ref v1), (2, .ref v2), (3, .ref v3)]) dL_law_1665 4 rfl rfl (by decide) rfl ?_
        refine sp_goto (pc := 1668) (tgt := 23) dL_law_1668 (by decide) ?_
        exact sp_sub [1, 2, 3, 4, 0] rfl (hk23 _ _ _ _ _ _ _ _ hf)
      · rw [if_neg c256] at hf
        refine sp_iconst (pc := 1338) (v := 0) dL_law_1338 (by decide) ?_
        obtain rfl := Option.some.inj hf
        exact sp_ireturn (pc := 1339) dL_law_1339 rfl rfl (hQ _ _)
    rw [if_neg c253] at hf
    by_cases c257 : (x2 &&& 31) = 23
    · rw [if_pos c257] at hf
      refine sp_tableIn (pc := 39) (off := 1301) (tgt := 1340) dL_law_39 (by rw [c257]; decide) (by rw [c257]; decide) (by rw [c257]; rfl) (by decide) ?_
      refine sp_aload_n (pc := 1340) dL_law_1340 1 rfl ?_
      obtain ⟨y258, ey258, hf⟩ := ob hf
      obtain ⟨fsy258, hoy258⟩ := o_X7_fewest ey258
      refine sp_callVi (pc := 1341) (z := M_X7_fewest) (As := []) (b := v1) (bc2 := bc) (bs2 := bs) (m_X7_fewest (Q := _) (fun sz => ⟨y258.1, rfl, ?_⟩) ey258) rfl dL_law_1341 hoy258 rfl rfl ck_L_law_176 (Nat.le_of_ble_eq_true rfl) rfl rfl rfl
      refine sp_aload_n (pc := 1344) dL_law_1344 2 rfl ?_
      obtain ⟨y259, ey259, hf⟩ := ob hf
      obtain ⟨fsy259, hoy259⟩ := o_X8_fewest ey259
      refine sp_callVi (pc := 1345) (z := M_X8_fewest) (As := []) (b := v2) (bc2 := bc) (bs2 := bs) (m_X8_fewest (Q := _) (fun sz => ⟨y259.1, rfl, ?_⟩) ey259) rfl dL_law_1345 hoy259 rfl rfl ck_L_law_179 (Nat.le_of_ble_eq_true rfl) rfl rfl rfl
      refine sp_icmp_eq (pc := 1348) (tgt := 1665) dL_law_1348 (by decide) (fun c260 => ?_) (fun c260 => ?_)
      · rw [if_pos c260] at hf
        refine sp_iinc (pc := 1665) (v := v4 + 4) (lv' := [(4, .int (v4 + 4)), (0, .ref v0), (1, .ref v1), (2, .ref v2), (3, .ref v3)]) dL_law_1665 4 rfl rfl (by decide) rfl ?_
        refine sp_goto (pc := 1668) (tgt := 23) dL_law_1668 (by decide) ?_
        exact sp_sub [1, 2, 3, 4, 0] rfl (hk23 _ _ _ _ _ _ _ _ hf)
      · rw [if_neg c260] at hf
        refine sp_iconst (pc := 1351) (v := 0) dL_law_1351 (by decide) ?_
        obtain rfl := Option.some.inj hf
        exact sp_ireturn (pc := 1352) dL_law_1352 rfl rfl (hQ _ _)
    rw [if_neg c257] at hf
    by_cases c261 : (x2 &&& 31) = 24
    · rw [if_pos c261] at hf
      refine sp_tableIn (pc := 39) (off := 1314) (tgt := 1353) dL_law_39 (by rw [c261]; decide) (by rw [c261]; decide) (by rw [c261]; rfl) (by decide) ?_
      refine sp_aload_n (pc := 1353) dL_law_1353 1 rfl ?_
      refine sp_aload_n (pc := 1354) dL_law_1354 0 rfl ?_
      refine sp_iload (pc := 1355) dL_law_1355 4 rfl ?_
      refine sp_iconst (pc := 1357) (v := 1) dL_law_1357 (by decide) ?_
      refine sp_iadd (pc := 1358) dL_law_1358 ?_
      obtain ⟨x262, ex262, hf⟩ := ob hf
      obtain ⟨g1x262, g2x262⟩ := sL_spec ex262
      refine sp_sld (pc := 1359) hX dL_law_1359 g1x262 ?_
      rw [g2x262]
      refine sp_aload_n (pc := 1360) dL_law_1360 0 rfl ?_
      refine sp_iload (pc := 1361) dL_law_1361 4 rfl ?_
      refine sp_iconst (pc := 1363) (v := 2) dL_law_1363 (by decide) ?_
      refine sp_iadd (pc := 1364) dL_law_1364 ?_
      obtain ⟨x263, ex263, hf⟩ := ob hf
      obtain ⟨g1x263, g2x263⟩ := sL_spec ex263
      refine sp_sld (pc := 1365) hX dL_law_1365 g1x263 ?_
      rw [g2x263]
      refine sp_i2l (pc := 1366) dL_law_1366 ?_
      refine sp_bipush (pc := 1367) (v := 32) dL_law_1367 (by decide) ?_
      refine sp_lshlJ (pc := 1369) dL_law_1369 ?_
      refine sp_aload_n (pc := 1370) dL_law_1370 0 rfl ?_
      refine sp_iload (pc := 1371) dL_law_1371 4 rfl ?_
      refine sp_iconst (pc := 1373) (v := 3) dL_law_1373 (by decide) ?_
      refine sp_iadd (pc := 1374) dL_law_1374 ?_
      obtain ⟨x264, ex264, hf⟩ := ob hf
      obtain ⟨g1x264, g2x264⟩ := sL_spec ex264
      refine sp_sld (pc := 1375) hX dL_law_1375 g1x264 ?_
      rw [g2x264]
      refine sp_i2l (pc := 1376) dL_law_1376 ?_
      refine sp_ldc2 (pc := 1377) dL_law_1377 bk_1361 ?_
      refine sp_land (pc := 1380) dL_law_1380 ?_
      refine sp_lor (pc := 1381) dL_law_1381 ?_
      refine sp_aload_n (pc := 1382) dL_law_1382 3 rfl ?_
      obtain ⟨b266, eb266, hf⟩ := ob hf
      obtain ⟨b267, eb267, hf⟩ := ob hf
      obtain ⟨y265, ey265, hf⟩ := ob hf
      refine sp_callW (pc := 1383) (hh9 := [(0, 11, 14, 13)]) (z := M_L_runScript) (As := [.ref v1, .int x262, .long ((jlshl (Int32.toInt64 x263) 32) ||| ((Int32.toInt64 x264) &&& 4294967295)), .ref v3]) (bc2 := b266) (bs2 := b267) (m_L_runScript (Q := _) (fun sz => ⟨y265.1, rfl, ?_⟩) hlt ey265) dL_law_1383 rfl bk_911 ck_L_law_182 (Nat.le_of_ble_eq_true rfl) (tk_spec eb266) (tk_spec eb267) rfl
      refine sp_istore (pc := 1386) (lv' := [(5, .int y265.1), (0, .ref v0), (1, .ref v1), (2, .ref v2), (3, .ref v3), (4, .int v4)]) dL_law_1386 (by decide) rfl ?_
      refine sp_aload_n (pc := 1388) dL_law_1388 3 rfl ?_
      refine sp_aload_n (pc := 1389) dL_law_1389 1 rfl ?_
      refine sp_iload (pc := 1390) dL_law_1390 5 rfl ?_
      refine sp_iconst (pc := 1392) (v := 1) dL_law_1392 (by decide) ?_
      refine sp_iadd (pc := 1393) dL_law_1393 ?_
      obtain ⟨x268, ex268, hf⟩ := ob hf
      obtain ⟨g1x268, g2x268⟩ := sL_spec ex268
      refine sp_sld (pc := 1394) hX dL_law_1394 g1x268 ?_
      rw [g2x268]
      refine sp_aload_n (pc := 1395) dL_law_1395 1 rfl ?_
      refine sp_iload (pc := 1396) dL_law_1396 5 rfl ?_
      refine sp_iconst (pc := 1398) (v := 2) dL_law_1398 (by decide) ?_
      refine sp_iadd (pc := 1399) dL_law_1399 ?_
      obtain ⟨x269, ex269, hf⟩ := ob hf
      obtain ⟨g1x269, g2x269⟩ := sL_spec ex269
      refine sp_sld (pc := 1400) hX dL_law_1400 g1x269 ?_
      rw [g2x269]
      refine sp_i2l (pc := 1401) dL_law_1401 ?_
      refine sp_bipush (pc := 1402) (v := 32) dL_law_1402 (by decide) ?_
      refine sp_lshlJ (pc := 1404) dL_law_1404 ?_
      refine sp_aload_n (pc := 1405) dL_law_1405 1 rfl ?_
      refine sp_iload (pc := 1406) dL_law_1406 5 rfl ?_
      refine sp_iconst (pc := 1408) (v := 3) dL_law_1408 (by decide) ?_
      refine sp_iadd (pc := 1409) dL_law_1409 ?_
      obtain ⟨x270, ex270, hf⟩ := ob hf
      obtain ⟨g1x270, g2x270⟩ := sL_spec ex270
      refine sp_sld (pc := 1410) hX dL_law_1410 g1x270 ?_
      rw [g2x270]
      refine sp_i2l (pc := 1411) dL_law_1411 ?_
      refine sp_ldc2 (pc := 1412) dL_law_1412 bk_1361 ?_
      refine sp_land (pc := 1415) dL_law_1415 ?_
      refine sp_lor (pc := 1416) dL_law_1416 ?_
      obtain ⟨y271, ey271, hf⟩ := ob hf
      obtain ⟨fsy271, hoy271⟩ := o_X8_runScript ey271
      refine sp_callVi (pc := 1417) (z := M_X8_runScript) (As := [.int x268, .long ((jlshl (Int32.toInt64 x269) 32) ||| ((Int32.toInt64 x270) &&& 4294967295))]) (b := v2) (bc2 := b266) (bs2 := b267) (m_X8_runScript (Q := _) (fun sz => ⟨y271.1, rfl, ?_⟩) ey271) rfl dL_law_1417 hoy271 rfl rfl ck_L_law_185 (Nat.le_of_ble_eq_true rfl) rfl rfl rfl
      refine sp_istore (pc := 1420) (lv' := [(6, .int y271.1), (5, .int y265.1), (0, .ref v0), (1, .ref v1), (2, .ref v2), (3, .ref v3), (4, .int v4)]) dL_law_1420 (by decide) rfl ?_
      refine sp_aload_n (pc := 1422) dL_law_1422 4 rfl ?_
      obtain ⟨y272, ey272, hf⟩ := ob hf
      obtain ⟨fsy272, hoy272⟩ := o_X8_thrown ey272
      refine sp_callVi (pc := 1423) (z := M_X8_thrown) (As := []) (b := v2) (bc2 := b266) (bs2 := b267) (m_X8_thrown (Q := _) (fun sz => ⟨y272, rfl, ?_⟩) ey272) rfl dL_law_1423 hoy272 rfl rfl ck_L_law_100 (Nat.le_of_ble_eq_true rfl) rfl rfl rfl
      refine sp_iload (pc := 1426) dL_law_1426 1 rfl ?_
      refine sp_icmp_eq (pc := 1428) (tgt := 1433) dL_law_1428 (by decide) (fun c273 => ?_) (fun c273 => ?_)
      · rw [if_pos c273] at hf
        refine sp_iload (pc := 1433) dL_law_1433 1 rfl ?_
        refine sp_if_ne (pc := 1435) (tgt := 1450) dL_law_1435 (by decide) (fun c274 => ?_) (fun c274 => ?_)
        · rw [if_neg c274] at hf
          refine sp_goto (pc := 1450) (tgt := 1665) dL_law_1450 (by decide) ?_
          refine sp_iinc (pc := 1665) (v := v4 + 4) (lv' := [(4, .int (v4 + 4)), (6, .int y271.1), (5, .int y265.1), (0, .ref v0), (1, .ref v1), (2, .ref v2), (3, .ref v3)]) dL_law_1665 6 rfl rfl (by decide) rfl ?_
          refine sp_goto (pc := 1668) (tgt := 23) dL_law_1668 (by decide) ?_
          exact sp_sub [3, 4, 5, 6, 0] rfl (hk23 _ _ _ _ _ _ _ _ hf)
        · rw [if_pos c274] at hf
          refine sp_aload_n (pc := 1438) dL_law_1438 5 rfl ?_
          refine sp_iconst (pc := 1439) (v := 0) dL_law_1439 (by decide) ?_
          obtain ⟨x275, ex275, hf⟩ := ob hf
          refine sp_aL (pc := 1440) dL_law_1440 ex275 ?_
          refine sp_iload (pc := 1441) dL_law_1441 0 rfl ?_
          refine sp_i2l (pc := 1443) dL_law_1443 ?_
          refine sp_lcmp (pc := 1444) dL_law_1444 ?_
          refine sp_if_eq (pc := 1445) (tgt := 1450) dL_law_1445 (by decide) (fun c276 => ?_) (fun c276 => ?_)
          · rw [if_pos c276] at hf
            refine sp_goto (pc := 1450) (tgt := 1665) dL_law_1450 (by decide) ?_
            refine sp_iinc (pc := 1665) (v := v4 + 4) (lv' := [(4, .int (v4 + 4)), (6, .int y271.1), (5, .int y265.1), (0, .ref v0), (1, .ref v1), (2, .ref v2), (3, .ref v3)]) dL_law_1665 6 rfl rfl (by decide) rfl ?_
            refine sp_goto (pc := 1668) (tgt := 23) dL_law_1668 (by decide) ?_
            exact sp_sub [3, 4, 5, 6, 0] rfl (hk23 _ _ _ _ _ _ _ _ hf)
          · rw [if_neg c276] at hf
            refine sp_iconst (pc := 1448) (v := 0) dL_law_1448 (by decide) ?_
            obtain rfl := Option.some.inj hf
            exact sp_ireturn (pc := 1449) dL_law_1449 rfl rfl (hQ _ _)
      · rw [if_neg c273] at hf
        refine sp_iconst (pc := 1431) (v := 0) dL_law_1431 (by decide) ?_
        obtain rfl := Option.some.inj hf
        exact sp_ireturn (pc := 1432) dL_law_1432 rfl rfl (hQ _ _)
    rw [if_neg c261] at hf
    by_cases c277 : (x2 &&& 31) = 25
    · rw [if_pos c277] at hf
      refine sp_tableIn (pc := 39) (off := 1414) (tgt := 1453) dL_law_39 (by rw [c277]; decide) (by rw [c277]; decide) (by rw [c277]; rfl) (by decide) ?_
      refine sp_aload_n (pc := 1453) dL_law_1453 1 rfl ?_
      refine sp_aload_n (pc := 1454) dL_law_1454 0 rfl ?_
      refine sp_iload (pc := 1455) dL_law_1455 4 rfl ?_
      refine sp_iconst (pc := 1457) (v := 1) dL_law_1457 (by decide) ?_
      refine sp_iadd (pc := 1458) dL_law_1458 ?_
      obtain ⟨x278, ex278, hf⟩ := ob hf
      obtain ⟨g1x278, g2x278⟩ := sL_spec ex278
      refine sp_sld (pc := 1459) hX dL_law_1459 g1x278 ?_
      rw [g2x278]
      refine sp_i2l (pc := 1460) dL_law_1460 ?_
      refine sp_bipush (pc := 1461) (v := 32) dL_law_1461 (by decide) ?_
      refine sp_lshlJ (pc := 1463) dL_law_1463 ?_
      refine sp_aload_n (pc := 1464) dL_law_1464 0 rfl ?_
      refine sp_iload (pc := 1465) dL_law_1465 4 rfl ?_
      refine sp_iconst (pc := 1467) (v := 2) dL_law_1467 (by decide) ?_
      refine sp_iadd (pc := 1468) dL_law_1468 ?_
      obtain ⟨x279, ex279, hf⟩ := ob hf
      obtain ⟨g1x279, g2x279⟩ := sL_spec ex279
      refine sp_sld (pc := 1469) hX dL_law_1469 g1x279 ?_
      rw [g2x279]
      refine sp_i2l (pc := 1470) dL_law_1470 ?_
      refine sp_ldc2 (pc := 1471) dL_law_1471 bk_1361 ?_
      refine sp_land (pc := 1474) dL_law_1474 ?_
      refine sp_lor (pc := 1475) dL_law_1475 ?_
      refine sp_aload_n (pc := 1476) dL_law_1476 0 rfl ?_
      refine sp_iload (pc := 1477) dL_law_1477 4 rfl ?_
      refine sp_iconst (pc := 1479) (v := 3) dL_law_1479 (by decide) ?_
      refine sp_iadd (pc := 1480) dL_law_1480 ?_
      obtain ⟨x280, ex280, hf⟩ := ob hf
      obtain ⟨g1x280, g2x280⟩ := sL_spec ex280
      refine sp_sld (pc := 1481) hX dL_law_1481 g1x280 ?_
      rw [g2x280]
      refine sp_aload_n (pc := 1482) dL_law_1482 3 rfl ?_
      obtain ⟨b282, eb282, hf⟩ := ob hf
      obtain ⟨b283, eb283, hf⟩ := ob hf
      obtain ⟨y281, ey281, hf⟩ := ob hf
      refine sp_callW (pc := 1483) (hh9 := [(0, 11, 14, 13)]) (z := M_L_simulate) (As := [.ref v1, .long ((jlshl (Int32.toInt64 x278) 32) ||| ((Int32.toInt64 x279) &&& 4294967295)), .int x280, .ref v3]) (bc2 := b282) (bs2 := b283) (m_L_simulate (Q := _) (fun sz => ⟨y281.1, rfl, ?_⟩) hlt ey281) dL_law_1483 rfl bk_928 ck_L_law_186 (Nat.le_of_ble_eq_true rfl) (tk_spec eb282) (tk_spec eb283) rfl
      refine sp_istore (pc := 1486) (lv' := [(5, .int y281.1), (0, .ref v0), (1, .ref v1), (2, .ref v2), (3, .ref v3), (4, .int v4)]) dL_law_1486 (by decide) rfl ?_
      refine sp_aload_n (pc := 1488) dL_law_1488 3 rfl ?_
      refine sp_aload_n (pc := 1489) dL_law_1489 1 rfl ?_
      refine sp_iload (pc := 1490) dL_law_1490 5 rfl ?_
      refine sp_iconst (pc := 1492) (v := 1) dL_law_1492 (by decide) ?_
      refine sp_iadd (pc := 1493) dL_law_1493 ?_
      obtain ⟨x284, ex284, hf⟩ := ob hf
      obtain ⟨g1x284, g2x284⟩ := sL_spec ex284
      refine sp_sld (pc := 1494) hX dL_law_1494 g1x284 ?_
      rw [g2x284]
      refine sp_i2l (pc := 1495) dL_law_1495 ?_
      refine sp_bipush (pc := 1496) (v := 32) dL_law_1496 (by decide) ?_
      refine sp_lshlJ (pc := 1498) dL_law_1498 ?_
      refine sp_aload_n (pc := 1499) dL_law_1499 1 rfl ?_
      refine sp_iload (pc := 1500) dL_law_1500 5 rfl ?_
      refine sp_iconst (pc := 1502) (v := 2) dL_law_1502 (by decide) ?_
      refine sp_iadd (pc := 1503) dL_law_1503 ?_
      obtain ⟨x285, ex285, hf⟩ := ob hf
      obtain ⟨g1x285, g2x285⟩ := sL_spec ex285
      refine sp_sld (pc := 1504) hX dL_law_1504 g1x285 ?_
      rw [g2x285]
      refine sp_i2l (pc := 1505) dL_law_1505 ?_
      refine sp_ldc2 (pc := 1506) dL_law_1506 bk_1361 ?_
      refine sp_land (pc := 1509) dL_law_1509 ?_
      refine sp_lor (pc := 1510) dL_law_1510 ?_
      refine sp_aload_n (pc := 1511) dL_law_1511 1 rfl ?_
      refine sp_iload (pc := 1512) dL_law_1512 5 rfl ?_
      refine sp_iconst (pc := 1514) (v := 3) dL_law_1514 (by decide) ?_
      refine sp_iadd (pc := 1515) dL_law_1515 ?_
      obtain ⟨x286, ex286, hf⟩ := ob hf
      obtain ⟨g1x286, g2x286⟩ := sL_spec ex286
      refine sp_sld (pc := 1516) hX dL_law_1516 g1x286 ?_
      rw [g2x286]
      obtain ⟨y287, ey287, hf⟩ := ob hf
      obtain ⟨fsy287, hoy287⟩ := o_X8_simulate ey287
      refine sp_callVi (pc := 1517) (z := M_X8_simulate) (As := [.long ((jlshl (Int32.toInt64 x284) 32) ||| ((Int32.toInt64 x285) &&& 4294967295)), .int x286]) (b := v2) (bc2 := b282) (bs2 := b283) (m_X8_simulate (Q := _) (fun sz => ⟨y287.1, rfl, ?_⟩) ey287) rfl dL_law_1517 hoy287 rfl rfl ck_L_law_189 (Nat.le_of_ble_eq_true rfl) rfl rfl rfl
      refine sp_istore (pc := 1520) (lv' := [(6, .int y287.1), (5, .int y281.1), (0, .ref v0), (1, .ref v1), (2, .ref v2), (3, .ref v3), (4, .int v4)]) dL_law_1520 (by decide) rfl ?_
      refine sp_aload_n (pc := 1522) dL_law_1522 4 rfl ?_
      obtain ⟨y288, ey288, hf⟩ := ob hf
      obtain ⟨fsy288, hoy288⟩ := o_X8_thrown ey288
      refine sp_callVi (pc := 1523) (z := M_X8_thrown) (As := []) (b := v2) (bc2 := b282) (bs2 := b283) (m_X8_thrown (Q := _) (fun sz => ⟨y288, rfl, ?_⟩) ey288) rfl dL_law_1523 hoy288 rfl rfl ck_L_law_100 (Nat.le_of_ble_eq_true rfl) rfl rfl rfl
      refine sp_iload (pc := 1526) dL_law_1526 1 rfl ?_
      refine sp_icmp_eq (pc := 1528) (tgt := 1533) dL_law_1528 (by decide) (fun c289 => ?_) (fun c289 => ?_)
      · rw [if_pos c289] at hf
        refine sp_iload (pc := 1533) dL_law_1533 1 rfl ?_
        refine sp_if_ne (pc := 1535) (tgt := 1550) dL_law_1535 (by decide) (fun c290 => ?_) (fun c290 => ?_)
        · rw [if_neg c290] at hf
          refine sp_goto (pc := 1550) (tgt := 1665) dL_law_1550 (by decide) ?_
          refine sp_iinc (pc := 1665) (v := v4 + 4) (lv' := [(4, .int (v4 + 4)), (6, .int y287.1), (5, .int y281.1), (0, .ref v0), (1, .ref v1), (2, .ref v2), (3, .ref v3)]) dL_law_1665 6 rfl rfl (by decide) rfl ?_
          refine sp_goto (pc := 1668) (tgt := 23) dL_law_1668 (by decide) ?_
          exact sp_sub [3, 4, 5, 6, 0] rfl (hk23 _ _ _ _ _ _ _ _ hf)
        · rw [if_pos c290] at hf
          refine sp_aload_n (pc := 1538) dL_law_1538 5 rfl ?_
          refine sp_iconst (pc := 1539) (v := 0) dL_law_1539 (by decide) ?_
          obtain ⟨x291, ex291, hf⟩ := ob hf
          refine sp_aL (pc := 1540) dL_law_1540 ex291 ?_
          refine sp_iload (pc := 1541) dL_law_1541 0 rfl ?_
          refine sp_i2l (pc := 1543) dL_law_1543 ?_
          refine sp_lcmp (pc := 1544) dL_law_1544 ?_
          refine sp_if_eq (pc := 1545) (tgt := 1550) dL_law_1545 (by decide) (fun c292 => ?_) (fun c292 => ?_)
          · rw [if_pos c292] at hf
            refine sp_goto (pc := 1550) (tgt := 1665) dL_law_1550 (by decide) ?_
            refine sp_iinc (pc := 1665) (v := v4 + 4) (lv' := [(4, .int (v4 + 4)), (6, .int y287.1), (5, .int y281.1), (0, .ref v0), (1, .ref v1), (2, .ref v2), (3, .ref v3)]) dL_law_1665 6 rfl rfl (by decide) rfl ?_
            refine sp_goto (pc := 1668) (tgt := 23) dL_law_1668 (by decide) ?_
            exact sp_sub [3, 4, 5, 6, 0] rfl (hk23 _ _ _ _ _ _ _ _ hf)
          · rw [if_neg c292] at hf
            refine sp_iconst (pc := 1548) (v := 0) dL_law_1548 (by decide) ?_
            obtain rfl := Option.some.inj hf
            exact sp_ireturn (pc := 1549) dL_law_1549 rfl rfl (hQ _ _)
      · rw [if_neg c289] at hf
        refine sp_iconst (pc := 1531) (v := 0) dL_law_1531 (by decide) ?_
        obtain rfl := Option.some.inj hf
        exact sp_ireturn (pc := 1532) dL_law_1532 rfl rfl (hQ _ _)
    rw [if_neg c277] at hf
    by_cases c293 : (x2 &&& 31) = 26
    · rw [if_pos c293] at hf
      refine sp_tableIn (pc := 39) (off := 1514) (tgt := 1553) dL_law_39 (by rw [c293]; decide) (by rw [c293]; decide) (by rw [c293]; rfl) (by decide) ?_
      refine sp_aload_n (pc := 1553) dL_law_1553 1 rfl ?_
      refine sp_aload_n (pc := 1554) dL_law_1554 0 rfl ?_
      refine sp_iload (pc := 1555) dL_law_1555 4 rfl ?_
      refine sp_iconst (pc := 1557) (v := 1) dL_law_1557 (by decide) ?_
      refine sp_iadd (pc := 1558) dL_law_1558 ?_
      obtain ⟨x294, ex294, hf⟩ := ob hf
      obtain ⟨g1x294, g2x294⟩ := sL_spec ex294
      refine sp_sld (pc := 1559) hX dL_law_1559 g1x294 ?_
      rw [g2x294]
      refine sp_aload_n (pc := 1560) dL_law_1560 3 rfl ?_
      obtain ⟨b296, eb296, hf⟩ := ob hf
      obtain ⟨b297, eb297, hf⟩ := ob hf
      obtain ⟨y295, ey295, hf⟩ := ob hf
      refine sp_callW (pc := 1561) (hh9 := [(0, 9, 12, 28)]) (z := M_L_save) (As := [.ref v1, .int x294, .ref v3]) (bc2 := b296) (bs2 := b297) (m_L_save (Q := _) (fun sz => ⟨y295.1, rfl, ?_⟩) hlt ey295) dL_law_1561 rfl bk_943 ck_L_law_190 (Nat.le_of_ble_eq_true rfl) (tk_spec eb296) (tk_spec eb297) rfl
      refine sp_istore (pc := 1564) (lv' := [(5, .int y295.1), (0, .ref v0), (1, .ref v1), (2, .ref v2), (3, .ref v3), (4, .int v4)]) dL_law_1564 (by decide) rfl ?_
      refine sp_aload_n (pc := 1566) dL_law_1566 3 rfl ?_
      refine sp_aload_n (pc := 1567) dL_law_1567 1 rfl ?_
      refine sp_iload (pc := 1568) dL_law_1568 5 rfl ?_
      refine sp_iconst (pc := 1570) (v := 1) dL_law_1570 (by decide) ?_
      refine sp_iadd (pc := 1571) dL_law_1571 ?_
      obtain ⟨x298, ex298, hf⟩ := ob hf
      obtain ⟨g1x298, g2x298⟩ := sL_spec ex298
      refine sp_sld (pc := 1572) hX dL_law_1572 g1x298 ?_
      rw [g2x298]
      obtain ⟨y299, ey299, hf⟩ := ob hf
      obtain ⟨fsy299, hoy299⟩ := o_X8_save ey299
      refine sp_callVi (pc := 1573) (z := M_X8_save) (As := [.int x298]) (b := v2) (bc2 := b296) (bs2 := b297) (m_X8_save (Q := _) (fun sz => ⟨y299.1, rfl, ?_⟩) ey299) rfl dL_law_1573 hoy299 rfl rfl ck_L_law_192 (Nat.le_of_ble_eq_true rfl) rfl rfl rfl
      refine sp_istore (pc := 1576) (lv' := [(6, .int y299.1), (5, .int y295.1), (0, .ref v0), (1, .ref v1), (2, .ref v2), (3, .ref v3), (4, .int v4)]) dL_law_1576 (by decide) rfl ?_
      refine sp_aload_n (pc := 1578) dL_law_1578 4 rfl ?_
      obtain ⟨y300, ey300, hf⟩ := ob hf
      obtain ⟨fsy300, hoy300⟩ := o_X8_thrown ey300
      refine sp_callVi (pc := 1579) (z := M_X8_thrown) (As := []) (b := v2) (bc2 := b296) (bs2 := b297) (m_X8_thrown (Q := _) (fun sz => ⟨y300, rfl, ?_⟩) ey300) rfl dL_law_1579 hoy300 rfl rfl ck_L_law_100 (Nat.le_of_ble_eq_true rfl) rfl rfl rfl
      refine sp_iload (pc := 1582) dL_law_1582 1 rfl ?_
      refine sp_icmp_eq (pc := 1584) (tgt := 1589) dL_law_1584 (by decide) (fun c301 => ?_) (fun c301 => ?_)
      · rw [if_pos c301] at hf
        refine sp_iload (pc := 1589) dL_law_1589 1 rfl ?_
        refine sp_if_ne (pc := 1591) (tgt := 1606) dL_law_1591 (by decide) (fun c302 => ?_) (fun c302 => ?_)
        · rw [if_neg c302] at hf
          refine sp_goto (pc := 1606) (tgt := 1665) dL_law_1606 (by decide) ?_
          refine sp_iinc (pc := 1665) (v := v4 + 4) (lv' := [(4, .int (v4 + 4)), (6, .int y299.1), (5, .int y295.1), (0, .ref v0), (1, .ref v1), (2, .ref v2), (3, .ref v3)]) dL_law_1665 6 rfl rfl (by decide) rfl ?_
          refine sp_goto (pc := 1668) (tgt := 23) dL_law_1668 (by decide) ?_
          exact sp_sub [3, 4, 5, 6, 0] rfl (hk23 _ _ _ _ _ _ _ _ hf)
        · rw [if_pos c302] at hf
          refine sp_aload_n (pc := 1594) dL_law_1594 5 rfl ?_
          refine sp_iconst (pc := 1595) (v := 0) dL_law_1595 (by decide) ?_
          obtain ⟨x303, ex303, hf⟩ := ob hf
          refine sp_aL (pc := 1596) dL_law_1596 ex303 ?_
          refine sp_iload (pc := 1597) dL_law_1597 0 rfl ?_
          refine sp_i2l (pc := 1599) dL_law_1599 ?_
          refine sp_lcmp (pc := 1600) dL_law_1600 ?_
          refine sp_if_eq (pc := 1601) (tgt := 1606) dL_law_1601 (by decide) (fun c304 => ?_) (fun c304 => ?_)
          · rw [if_pos c304] at hf
            refine sp_goto (pc := 1606) (tgt := 1665) dL_law_1606 (by decide) ?_
            refine sp_iinc (pc := 1665) (v := v4 + 4) (lv' := [(4, .int (v4 + 4)), (6, .int y299.1), (5, .int y295.1), (0, .ref v0), (1, .ref v1), (2, .ref v2), (3, .ref v3)]) dL_law_1665 6 rfl rfl (by decide) rfl ?_
            refine sp_goto (pc := 1668) (tgt := 23) dL_law_1668 (by decide) ?_
            exact sp_sub [3, 4, 5, 6, 0] rfl (hk23 _ _ _ _ _ _ _ _ hf)
          · rw [if_neg c304] at hf
            refine sp_iconst (pc := 1604) (v := 0) dL_law_1604 (by decide) ?_
            obtain rfl := Option.some.inj hf
            exact sp_ireturn (pc := 1605) dL_law_1605 rfl rfl (hQ _ _)
      · rw [if_neg c301] at hf
        refine sp_iconst (pc := 1587) (v := 0) dL_law_1587 (by decide) ?_
        obtain rfl := Option.some.inj hf
        exact sp_ireturn (pc := 1588) dL_law_1588 rfl rfl (hQ _ _)
    rw [if_neg c293] at hf
    by_cases c305 : (x2 &&& 31) = 27
    · rw [if_pos c305] at hf
      refine sp_tableIn (pc := 39) (off := 1570) (tgt := 1609) dL_law_39 (by rw [c305]; decide) (by rw [c305]; decide) (by rw [c305]; rfl) (by decide) ?_
      refine sp_aload_n (pc := 1609) dL_law_1609 1 rfl ?_
      refine sp_aload_n (pc := 1610) dL_law_1610 0 rfl ?_
      refine sp_iload (pc := 1611) dL_law_1611 4 rfl ?_
      refine sp_iconst (pc := 1613) (v := 1) dL_law_1613 (by decide) ?_
      refine sp_iadd (pc := 1614) dL_law_1614 ?_
      obtain ⟨x306, ex306, hf⟩ := ob hf
      obtain ⟨g1x306, g2x306⟩ := sL_spec ex306
      refine sp_sld (pc := 1615) hX dL_law_1615 g1x306 ?_
      rw [g2x306]
      refine sp_aload_n (pc := 1616) dL_law_1616 3 rfl ?_
      obtain ⟨b308, eb308, hf⟩ := ob hf
      obtain ⟨b309, eb309, hf⟩ := ob hf
      obtain ⟨y307, ey307, hf⟩ := ob hf
      refine sp_callW (pc := 1617) (hh9 := [(0, 9, 12, 28), (0, 9, 15, 15)]) (z := M_L_restore) (As := [.ref v1, .int x306, .ref v3]) (bc2 := b308) (bs2 := b309) (m_L_restore (Q := _) (fun sz => ⟨y307.1, rfl, ?_⟩) hlt ey307) dL_law_1617 rfl bk_951 ck_L_law_193 (Nat.le_of_ble_eq_true rfl) (tk_spec eb308) (tk_spec eb309) rfl
      refine sp_istore (pc := 1620) (lv' := [(5, .int y307.1), (0, .ref v0), (1, .ref v1), (2, .ref v2), (3, .ref v3), (4, .int v4)]) dL_law_1620 (by decide) rfl ?_
      refine sp_aload_n (pc := 1622) dL_law_1622 3 rfl ?_
      refine sp_aload_n (pc := 1623) dL_law_1623 1 rfl ?_
      refine sp_iload (pc := 1624) dL_law_1624 5 rfl ?_
      refine sp_iconst (pc := 1626) (v := 1) dL_law_1626 (by decide) ?_
      refine sp_iadd (pc := 1627) dL_law_1627 ?_
      obtain ⟨x310, ex310, hf⟩ := ob hf
      obtain ⟨g1x310, g2x310⟩ := sL_spec ex310
      refine sp_sld (pc := 1628) hX dL_law_1628 g1x310 ?_
      rw [g2x310]
      obtain ⟨y311, ey311, hf⟩ := ob hf
      obtain ⟨fsy311, hoy311⟩ := o_X8_restore ey311
      refine sp_callVi (pc := 1629) (z := M_X8_restore) (As := [.int x310]) (b := v2) (bc2 := b308) (bs2 := b309) (m_X8_restore (Q := _) (fun sz => ⟨y311.1, rfl, ?_⟩) ey311) rfl dL_law_1629 hoy311 rfl rfl ck_L_law_195 (Nat.le_of_ble_eq_true rfl) rfl rfl rfl
      refine sp_istore (pc := 1632) (lv' := [(6, .int y311.1), (5, .int y307.1), (0, .ref v0), (1, .ref v1), (2, .ref v2), (3, .ref v3), (4, .int v4)]) dL_law_1632 (by decide) rfl ?_
      refine sp_aload_n (pc := 1634) dL_law_1634 4 rfl ?_
      obtain ⟨y312, ey312, hf⟩ := ob hf
      obtain ⟨fsy312, hoy312⟩ := o_X8_thrown ey312
      refine sp_callVi (pc := 1635) (z := M_X8_thrown) (As := []) (b := v2) (bc2 := b308) (bs2 := b309) (m_X8_thrown (Q := _) (fun sz => ⟨y312, rfl, ?_⟩) ey312) rfl dL_law_1635 hoy312 rfl rfl ck_L_law_100 (Nat.le_of_ble_eq_true rfl) rfl rfl rfl
      refine sp_iload (pc := 1638) dL_law_1638 1 rfl ?_
      refine sp_icmp_eq (pc := 1640) (tgt := 1645) dL_law_1640 (by decide) (fun c313 => ?_) (fun c313 => ?_)
      · rw [if_pos c313] at hf
        refine sp_iload (pc := 1645) dL_law_1645 1 rfl ?_
        refine sp_if_ne (pc := 1647) (tgt := 1662) dL_law_1647 (by decide) (fun c314 => ?_) (fun c314 => ?_)
        · rw [if_neg c314] at hf
          refine sp_goto (pc := 1662) (tgt := 1665) dL_law_1662 (by decide) ?_
          refine sp_iinc (pc := 1665) (v := v4 + 4) (lv' := [(4, .int (v4 + 4)), (6, .int y311.1), (5, .int y307.1), (0, .ref v0), (1, .ref v1), (2, .ref v2), (3, .ref v3)]) dL_law_1665 6 rfl rfl (by decide) rfl ?_
          refine sp_goto (pc := 1668) (tgt := 23) dL_law_1668 (by decide) ?_
          exact sp_sub [3, 4, 5, 6, 0] rfl (hk23 _ _ _ _ _ _ _ _ hf)
        · rw [if_pos c314] at hf
          refine sp_aload_n (pc := 1650) dL_law_1650 5 rfl ?_
          refine sp_iconst (pc := 1651) (v := 0) dL_law_1651 (by decide) ?_
          obtain ⟨x315, ex315, hf⟩ := ob hf
          refine sp_aL (pc := 1652) dL_law_1652 ex315 ?_
          refine sp_iload (pc := 1653) dL_law_1653 0 rfl ?_
          refine sp_i2l (pc := 1655) dL_law_1655 ?_
          refine sp_lcmp (pc := 1656) dL_law_1656 ?_
          refine sp_if_eq (pc := 1657) (tgt := 1662) dL_law_1657 (by decide) (fun c316 => ?_) (fun c316 => ?_)
          · rw [if_pos c316] at hf
            refine sp_goto (pc := 1662) (tgt := 1665) dL_law_1662 (by decide) ?_
            refine sp_iinc (pc := 1665) (v := v4 + 4) (lv' := [(4, .int (v4 + 4)), (6, .int y311.1), (5, .int y307.1), (0, .ref v0), (1, .ref v1), (2, .ref v2), (3, .ref v3)]) dL_law_1665 6 rfl rfl (by decide) rfl ?_
            refine sp_goto (pc := 1668) (tgt := 23) dL_law_1668 (by decide) ?_
            exact sp_sub [3, 4, 5, 6, 0] rfl (hk23 _ _ _ _ _ _ _ _ hf)
          · rw [if_neg c316] at hf
            refine sp_iconst (pc := 1660) (v := 0) dL_law_1660 (by decide) ?_
            obtain rfl := Option.some.inj hf
            exact sp_ireturn (pc := 1661) dL_law_1661 rfl rfl (hQ _ _)
      · rw [if_neg c313] at hf
        refine sp_iconst (pc := 1643) (v := 0) dL_law_1643 (by decide) ?_
        obtain rfl := Option.some.inj hf
        exact sp_ireturn (pc := 1644) dL_law_1644 rfl rfl (hQ _ _)
    rw [if_neg c305] at hf
    refine sp_tableOut (pc := 39) (tgt := 1665) dL_law_39 (tbl_out (fun i h1 h2 he => ?_)) (by decide) ?_
    · rcases (show i = 0 ∨ i = 1 ∨ i = 2 ∨ i = 3 ∨ i = 4 ∨ i = 5 ∨ i = 6 ∨ i = 7 ∨ i = 8 ∨ i = 9 ∨ i = 10 ∨ i = 11 ∨ i = 12 ∨ i = 13 ∨ i = 14 ∨ i = 15 ∨ i = 16 ∨ i = 17 ∨ i = 18 ∨ i = 19 ∨ i = 20 ∨ i = 21 ∨ i = 22 ∨ i = 23 ∨ i = 24 ∨ i = 25 ∨ i = 26 ∨ i = 27 by omega) with rfl | rfl | rfl | rfl | rfl | rfl | rfl | rfl | rfl | rfl | rfl | rfl | rfl | rfl | rfl | rfl | rfl | rfl | rfl | rfl | rfl | rfl | rfl | rfl | rfl | rfl | rfl | rfl
      · exact c3 (Int32.toInt_inj.mp (he.trans (by decide)))
      · exact c15 (Int32.toInt_inj.mp (he.trans (by decide)))
      · exact c19 (Int32.toInt_inj.mp (he.trans (by decide)))
      · exact c23 (Int32.toInt_inj.mp (he.trans (by decide)))
      · exact c33 (Int32.toInt_inj.mp (he.trans (by decide)))
      · exact c45 (Int32.toInt_inj.mp (he.trans (by decide)))
      · exact c59 (Int32.toInt_inj.mp (he.trans (by decide)))
      · exact c73 (Int32.toInt_inj.mp (he.trans (by decide)))
      · exact c89 (Int32.toInt_inj.mp (he.trans (by decide)))
      · exact c101 (Int32.toInt_inj.mp (he.trans (by decide)))
      · exact c115 (Int32.toInt_inj.mp (he.trans (by decide)))
      · exact c129 (Int32.toInt_inj.mp (he.trans (by decide)))
      · exact c139 (Int32.toInt_inj.mp (he.trans (by decide)))
      · exact c151 (Int32.toInt_inj.mp (he.trans (by decide)))
      · exact c161 (Int32.toInt_inj.mp (he.trans (by decide)))
      · exact c173 (Int32.toInt_inj.mp (he.trans (by decide)))
      · exact c183 (Int32.toInt_inj.mp (he.trans (by decide)))
      · exact c195 (Int32.toInt_inj.mp (he.trans (by decide)))
      · exact c209 (Int32.toInt_inj.mp (he.trans (by decide)))
      · exact c225 (Int32.toInt_inj.mp (he.trans (by decide)))
      · exact c229 (Int32.toInt_inj.mp (he.trans (by decide)))
      · exact c241 (Int32.toInt_inj.mp (he.trans (by decide)))
      · exact c253 (Int32.toInt_inj.mp (he.trans (by decide)))
      · exact c257 (Int32.toInt_inj.mp (he.trans (by decide)))
      · exact c261 (Int32.toInt_inj.mp (he.trans (by decide)))
      · exact c277 (Int32.toInt_inj.mp (he.trans (by decide)))
      · exact c293 (Int32.toInt_inj.mp (he.trans (by decide)))
      · exact c305 (Int32.toInt_inj.mp (he.trans (by decide)))
    refine sp_iinc (pc := 1665) (v := v4 + 4) (lv' := [(4, .int (v4 + 4)), (0, .ref v0), (1, .ref v1), (2, .ref v2), (3, .ref v3)]) dL_law_1665 4 rfl rfl (by decide) rfl ?_
    refine sp_goto (pc := 1668) (tgt := 23) dL_law_1668 (by decide) ?_
    exact sp_sub [1, 2, 3, 4, 0] rfl (hk23 _ _ _ _ _ _ _ _ hf)

theorem w_L_law_23 {l : Launch} {X : SCR} {Q : PST} {res : Int32} (hQ : ∀ (h' : HP) (sz' : Nat), Q (.inl (some (.int res))) h' sz') (hlt : l.stackTraces = false) {L : Nat} {xs : Nat → Int32} {v0 : Nat} (hX : X.1 = some (v0, L, xs)) : ∀ (n : Nat) {h : HP} {bc bs : Nat} {v1 : Nat} {v2 : Nat} {v3 : Nat} {v4 : Int32} {sz : Nat}, b_L_law_23 L xs v0 n h bc bs v1 v2 v3 v4 = some res → SP l X M_L_law 23 [(0, .ref v0), (1, .ref v1), (2, .ref v2), (3, .ref v3), (4, .int v4)] [] h sz bc bs Q := by
  intro n
  induction n with
  | zero =>
    intro h bc bs v1 v2 v3 v4 sz hf
    rw [b_L_law_23] at hf
    cases hf
  | succ n ih =>
    intro h bc bs v1 v2 v3 v4 sz hf
    rw [b_L_law_23] at hf
    exact wc_L_law_23 hQ hlt hX (fun h bc bs v1 v2 v3 v4 sz hf => ih hf) hf

theorem w_L_law_0 {l : Launch} {X : SCR} {Q : PST} {res : Int32} {h : HP} {bc bs : Nat} (hQ : ∀ (h' : HP) (sz' : Nat), Q (.inl (some (.int res))) h' sz') (hlt : l.stackTraces = false) {q0 : Nat} {L : Nat} {xs : Nat → Int32} {v0 : Nat} (hX : X.1 = some (v0, L, xs)) (hf : b_L_law_0 q0 L xs v0 h bc bs  = some res) : SP l X M_L_law 0 [(0, .ref v0)] [] h q0 bc bs Q := by
  rw [b_L_law_0] at hf
  obtain ⟨b2, eb2, hf⟩ := ob hf
  obtain ⟨b3, eb3, hf⟩ := ob hf
  obtain ⟨h1, eh1, hf⟩ := ob hf
  obtain rfl := Option.some.inj eh1
  refine sp_new (pc := 0) (bc2 := b2) (bs2 := b3) nw_RL_8 dL_law_0 (tk_spec eb2) (tk_spec eb3) (fun hfr => ?_)
  refine sp_dup (pc := 3) dL_law_3 rfl ?_
  obtain ⟨b5, eb5, hf⟩ := ob hf
  obtain ⟨b6, eb6, hf⟩ := ob hf
  obtain ⟨y4, ey4, hf⟩ := ob hf
  refine sp_callIv (pc := 4) (z := M_X7_init) (As := []) (b := q0) (bc2 := b5) (bs2 := b6) (m_X7_init (Q := _) ⟨(), rfl, ?_⟩ ey4) rfl rfl rfl dL_law_4 rfl ck_L_law_90 (Nat.le_of_ble_eq_true rfl) (tk_spec eb5) (tk_spec eb6) rfl
  refine sp_astore_n (pc := 7) (lv' := [(1, .ref q0), (0, .ref v0)]) dL_law_7 (by decide) rfl ?_
  obtain ⟨b8, eb8, hf⟩ := ob hf
  obtain ⟨b9, eb9, hf⟩ := ob hf
  obtain ⟨h7, eh7, hf⟩ := ob hf
  obtain rfl := Option.some.inj eh7
  refine sp_new (pc := 8) (bc2 := b8) (bs2 := b9) nw_RL_91 dL_law_8 (tk_spec eb8) (tk_spec eb9) (fun hfr => ?_)
  refine sp_dup (pc := 11) dL_law_11 rfl ?_
  obtain ⟨b11, eb11, hf⟩ := ob hf
  obtain ⟨b12, eb12, hf⟩ := ob hf
  obtain ⟨y10, ey10, hf⟩ := ob hf
  refine sp_callIv (pc := 12) (z := M_X8_init) (As := []) (b := y4.2) (bc2 := b11) (bs2 := b12) (m_X8_init (Q := _) ⟨(), rfl, ?_⟩ ey10) rfl rfl rfl dL_law_12 rfl ck_L_law_93 (Nat.le_of_ble_eq_true rfl) (tk_spec eb11) (tk_spec eb12) rfl
  refine sp_astore_n (pc := 15) (lv' := [(2, .ref y4.2), (1, .ref q0), (0, .ref v0)]) dL_law_15 (by decide) rfl ?_
  refine sp_iconst (pc := 16) (v := 1) dL_law_16 (by decide) ?_
  obtain ⟨b13, eb13, hf⟩ := ob hf
  obtain ⟨h14, eh14, hf⟩ := ob hf
  obtain rfl := Option.some.inj eh14
  obtain ⟨g1b13, g2b13, g3b13, g4b13⟩ := alN_spec eb13
  refine sp_newaJ (pc := 17) (bc2 := b13.1) (bs2 := b13.2) bk_1362 dL_law_17 g1b13 rfl (Nat.le_trans (Nat.mul_le_mul_left _ (by decide)) g2b13) g3b13 g4b13 (fun hfr => ?_)
  refine sp_astore_n (pc := 19) (lv' := [(3, .ref y10.2), (2, .ref y4.2), (1, .ref q0), (0, .ref v0)]) dL_law_19 (by decide) rfl ?_
  refine sp_iconst (pc := 20) (v := 0) dL_law_20 (by decide) ?_
  refine sp_istore (pc := 21) (lv' := [(4, .int 0), (3, .ref y10.2), (2, .ref y4.2), (1, .ref q0), (0, .ref v0)]) dL_law_21 (by decide) rfl ?_
  exact sp_sub [4, 3, 2, 1, 0] rfl (w_L_law_23 hQ hlt hX FU hf)

