theorem dX8_init_0 : decode (mB M_X8_init) 0 = .ok (.aload_n 0, 1) := by decide +kernel
theorem dX8_init_1 : decode (mB M_X8_init) 1 = .ok (.invokespecial 1, 3) := by decide +kernel
theorem dX8_init_4 : decode (mB M_X8_init) 4 = .ok (.aload_n 0, 1) := by decide +kernel
theorem dX8_init_5 : decode (mB M_X8_init) 5 = .ok (.sipush 204, 3) := by decide +kernel
theorem dX8_init_8 : decode (mB M_X8_init) 8 = .ok (.newarray .int, 2) := by decide +kernel
theorem dX8_init_10 : decode (mB M_X8_init) 10 = .ok (.putfield 7, 3) := by decide +kernel
theorem dX8_init_13 : decode (mB M_X8_init) 13 = .ok (.aload_n 0, 1) := by decide +kernel
theorem dX8_init_14 : decode (mB M_X8_init) 14 = .ok (.sipush 204, 3) := by decide +kernel
theorem dX8_init_17 : decode (mB M_X8_init) 17 = .ok (.newarray .int, 2) := by decide +kernel
theorem dX8_init_19 : decode (mB M_X8_init) 19 = .ok (.putfield 13, 3) := by decide +kernel
theorem dX8_init_22 : decode (mB M_X8_init) 22 = .ok (.aload_n 0, 1) := by decide +kernel
theorem dX8_init_23 : decode (mB M_X8_init) 23 = .ok (.sipush 2856, 3) := by decide +kernel
theorem dX8_init_26 : decode (mB M_X8_init) 26 = .ok (.newarray .int, 2) := by decide +kernel
theorem dX8_init_28 : decode (mB M_X8_init) 28 = .ok (.putfield 16, 3) := by decide +kernel
theorem dX8_init_31 : decode (mB M_X8_init) 31 = .ok (.aload_n 0, 1) := by decide +kernel
theorem dX8_init_32 : decode (mB M_X8_init) 32 = .ok (.sipush 408, 3) := by decide +kernel
theorem dX8_init_35 : decode (mB M_X8_init) 35 = .ok (.newarray .int, 2) := by decide +kernel
theorem dX8_init_37 : decode (mB M_X8_init) 37 = .ok (.putfield 19, 3) := by decide +kernel
theorem dX8_init_40 : decode (mB M_X8_init) 40 = .ok (.aload_n 0, 1) := by decide +kernel
theorem dX8_init_41 : decode (mB M_X8_init) 41 = .ok (.iconst 2, 1) := by decide +kernel
theorem dX8_init_42 : decode (mB M_X8_init) 42 = .ok (.newarray .boolean, 2) := by decide +kernel
theorem dX8_init_44 : decode (mB M_X8_init) 44 = .ok (.putfield 22, 3) := by decide +kernel
theorem dX8_init_47 : decode (mB M_X8_init) 47 = .ok (.aload_n 0, 1) := by decide +kernel
theorem dX8_init_48 : decode (mB M_X8_init) 48 = .ok (.bipush 120, 2) := by decide +kernel
theorem dX8_init_50 : decode (mB M_X8_init) 50 = .ok (.newarray .int, 2) := by decide +kernel
theorem dX8_init_52 : decode (mB M_X8_init) 52 = .ok (.putfield 26, 3) := by decide +kernel
theorem dX8_init_55 : decode (mB M_X8_init) 55 = .ok (.aload_n 0, 1) := by decide +kernel
theorem dX8_init_56 : decode (mB M_X8_init) 56 = .ok (.sipush 1600, 3) := by decide +kernel
theorem dX8_init_59 : decode (mB M_X8_init) 59 = .ok (.newarray .int, 2) := by decide +kernel
theorem dX8_init_61 : decode (mB M_X8_init) 61 = .ok (.putfield 29, 3) := by decide +kernel
theorem dX8_init_64 : decode (mB M_X8_init) 64 = .ok (.aload_n 0, 1) := by decide +kernel
theorem dX8_init_65 : decode (mB M_X8_init) 65 = .ok (.bipush 48, 2) := by decide +kernel
theorem dX8_init_67 : decode (mB M_X8_init) 67 = .ok (.newarray .boolean, 2) := by decide +kernel
theorem dX8_init_69 : decode (mB M_X8_init) 69 = .ok (.putfield 32, 3) := by decide +kernel
theorem dX8_init_72 : decode (mB M_X8_init) 72 = .ok (.aload_n 0, 1) := by decide +kernel
theorem dX8_init_73 : decode (mB M_X8_init) 73 = .ok (.iconst 0, 1) := by decide +kernel
theorem dX8_init_74 : decode (mB M_X8_init) 74 = .ok (.putfield 35, 3) := by decide +kernel
theorem dX8_init_77 : decode (mB M_X8_init) 77 = .ok (.return_, 1) := by decide +kernel
def b_X8_init_0 (v0 : Nat) (h : HP) (q bc bs : Nat) : Option (HP × Nat) :=
  (alN bc bs 204).bind fun b1 => (nwI h q 204).bind fun h2 => (pR 8 1 h2 v0 q).bind fun h3 => (alN b1.1 b1.2 204).bind fun b4 => (nwI h3 (q + 1) 204).bind fun h5 => (pR 8 2 h5 v0 (q + 1)).bind fun h6 => (alN b4.1 b4.2 2856).bind fun b7 => (nwI h6 ((q + 1) + 1) 2856).bind fun h8 => (pR 8 3 h8 v0 ((q + 1) + 1)).bind fun h9 => (alN b7.1 b7.2 408).bind fun b10 => (nwI h9 (((q + 1) + 1) + 1) 408).bind fun h11 => (pR 8 5 h11 v0 (((q + 1) + 1) + 1)).bind fun h12 => (alN b10.1 b10.2 2).bind fun b13 => (nwZ h12 ((((q + 1) + 1) + 1) + 1) 2).bind fun h14 => (pR 8 6 h14 v0 ((((q + 1) + 1) + 1) + 1)).bind fun h15 => (alN b13.1 b13.2 120).bind fun b16 => (nwI h15 (((((q + 1) + 1) + 1) + 1) + 1) 120).bind fun h17 => (pR 8 7 h17 v0 (((((q + 1) + 1) + 1) + 1) + 1)).bind fun h18 => (alN b16.1 b16.2 1600).bind fun b19 => (nwI h18 ((((((q + 1) + 1) + 1) + 1) + 1) + 1) 1600).bind fun h20 => (pR 8 9 h20 v0 ((((((q + 1) + 1) + 1) + 1) + 1) + 1)).bind fun h21 => (alN b19.1 b19.2 48).bind fun b22 => (nwZ h21 (((((((q + 1) + 1) + 1) + 1) + 1) + 1) + 1) 48).bind fun h23 => (pR 8 11 h23 v0 (((((((q + 1) + 1) + 1) + 1) + 1) + 1) + 1)).bind fun h24 => (pI 8 0 h24 v0 0).bind fun h25 => some (h25, (((((((q + 1) + 1) + 1) + 1) + 1) + 1) + 1) + 1)
def f_X8_init (h : HP) (q : Nat) (v0 : Nat) : Option (HP × Nat) := b_X8_init_0 v0 h q 8 5442
theorem w_X8_init_0 {l : Launch} {X : SCR} {Q : PST} {res : HP × Nat} {h : HP} {q bc bs : Nat} (hQ : Q (.inl none) res.1 res.2) {v0 : Nat} (hf : b_X8_init_0 v0 h q bc bs  = some res) : SP l X M_X8_init 0 [(0, .ref v0)] [] h q bc bs Q := by
  rw [b_X8_init_0] at hf
  refine sp_aload_n (pc := 0) dX8_init_0 0 rfl ?_
  refine sp_objInit (pc := 1) bk_964 bk_88 bk_89 dX8_init_1 (by decide) (Nat.le_of_ble_eq_true rfl) ?_
  refine sp_aload_n (pc := 4) dX8_init_4 0 rfl ?_
  refine sp_sipush (pc := 5) (v := 204) dX8_init_5 (by decide) ?_
  obtain ⟨b1, eb1, hf⟩ := ob hf
  obtain ⟨h2, eh2, hf⟩ := ob hf
  obtain rfl := Option.some.inj eh2
  obtain ⟨g1b1, g2b1, g3b1, g4b1⟩ := alN_spec eb1
  refine sp_newaI (pc := 8) (bc2 := b1.1) (bs2 := b1.2) bk_121 dX8_init_8 g1b1 rfl (Nat.le_trans (Nat.mul_le_mul_left _ (by decide)) g2b1) g3b1 g4b1 (fun hfr => ?_)
  obtain ⟨h3, eh3, hf⟩ := ob hf
  refine sp_pRF (pc := 10) pf_RX8_7 rfl dX8_init_10 rfl rfl eh3 ?_
  refine sp_aload_n (pc := 13) dX8_init_13 0 rfl ?_
  refine sp_sipush (pc := 14) (v := 204) dX8_init_14 (by decide) ?_
  obtain ⟨b4, eb4, hf⟩ := ob hf
  obtain ⟨h5, eh5, hf⟩ := ob hf
  obtain rfl := Option.some.inj eh5
  obtain ⟨g1b4, g2b4, g3b4, g4b4⟩ := alN_spec eb4
  refine sp_newaI (pc := 17) (bc2 := b4.1) (bs2 := b4.2) bk_121 dX8_init_17 g1b4 rfl (Nat.le_trans (Nat.mul_le_mul_left _ (by decide)) g2b4) g3b4 g4b4 (fun hfr => ?_)
  obtain ⟨h6, eh6, hf⟩ := ob hf
  refine sp_pRF (pc := 19) pf_RX8_13 rfl dX8_init_19 rfl rfl eh6 ?_
  refine sp_aload_n (pc := 22) dX8_init_22 0 rfl ?_
  refine sp_sipush (pc := 23) (v := 2856) dX8_init_23 (by decide) ?_
  obtain ⟨b7, eb7, hf⟩ := ob hf
  obtain ⟨h8, eh8, hf⟩ := ob hf
  obtain rfl := Option.some.inj eh8
  obtain ⟨g1b7, g2b7, g3b7, g4b7⟩ := alN_spec eb7
  refine sp_newaI (pc := 26) (bc2 := b7.1) (bs2 := b7.2) bk_121 dX8_init_26 g1b7 rfl (Nat.le_trans (Nat.mul_le_mul_left _ (by decide)) g2b7) g3b7 g4b7 (fun hfr => ?_)
  obtain ⟨h9, eh9, hf⟩ := ob hf
  refine sp_pRF (pc := 28) pf_RX8_16 rfl dX8_init_28 rfl rfl eh9 ?_
  refine sp_aload_n (pc := 31) dX8_init_31 0 rfl ?_
  refine sp_sipush (pc := 32) (v := 408) dX8_init_32 (by decide) ?_
  obtain ⟨b10, eb10, hf⟩ := ob hf
  obtain ⟨h11, eh11, hf⟩ := ob hf
  obtain rfl := Option.some.inj eh11
  obtain ⟨g1b10, g2b10, g3b10, g4b10⟩ := alN_spec eb10
  refine sp_newaI (pc := 35) (bc2 := b10.1) (bs2 := b10.2) bk_121 dX8_init_35 g1b10 rfl (Nat.le_trans (Nat.mul_le_mul_left _ (by decide)) g2b10) g3b10 g4b10 (fun hfr => ?_)
  obtain ⟨h12, eh12, hf⟩ := ob hf
  refine sp_pRF (pc := 37) pf_RX8_19 rfl dX8_init_37 rfl rfl eh12 ?_
  refine sp_aload_n (pc := 40) dX8_init_40 0 rfl ?_
  refine sp_iconst (pc := 41) (v := 2) dX8_init_41 (by decide) ?_
  obtain ⟨b13, eb13, hf⟩ := ob hf
  obtain ⟨h14, eh14, hf⟩ := ob hf
  obtain rfl := Option.some.inj eh14
  obtain ⟨g1b13, g2b13, g3b13, g4b13⟩ := alN_spec eb13
  refine sp_newaZ (pc := 42) (bc2 := b13.1) (bs2 := b13.2) bk_231 dX8_init_42 g1b13 rfl (Nat.le_trans (Nat.mul_le_mul_left _ (by decide)) g2b13) g3b13 g4b13 (fun hfr => ?_)
  obtain ⟨h15, eh15, hf⟩ := ob hf
  refine sp_pRF (pc := 44) pf_RX8_22 rfl dX8_init_44 rfl rfl eh15 ?_
  refine sp_aload_n (pc := 47) dX8_init_47 0 rfl ?_
  refine sp_bipush (pc := 48) (v := 120) dX8_init_48 (by decide) ?_
  obtain ⟨b16, eb16, hf⟩ := ob hf
  obtain ⟨h17, eh17, hf⟩ := ob hf
  obtain rfl := Option.some.inj eh17
  obtain ⟨g1b16, g2b16, g3b16, g4b16⟩ := alN_spec eb16
  refine sp_newaI (pc := 50) (bc2 := b16.1) (bs2 := b16.2) bk_121 dX8_init_50 g1b16 rfl (Nat.le_trans (Nat.mul_le_mul_left _ (by decide)) g2b16) g3b16 g4b16 (fun hfr => ?_)
  obtain ⟨h18, eh18, hf⟩ := ob hf
  refine sp_pRF (pc := 52) pf_RX8_26 rfl dX8_init_52 rfl rfl eh18 ?_
  refine sp_aload_n (pc := 55) dX8_init_55 0 rfl ?_
  refine sp_sipush (pc := 56) (v := 1600) dX8_init_56 (by decide) ?_
  obtain ⟨b19, eb19, hf⟩ := ob hf
  obtain ⟨h20, eh20, hf⟩ := ob hf
  obtain rfl := Option.some.inj eh20
  obtain ⟨g1b19, g2b19, g3b19, g4b19⟩ := alN_spec eb19
  refine sp_newaI (pc := 59) (bc2 := b19.1) (bs2 := b19.2) bk_121 dX8_init_59 g1b19 rfl (Nat.le_trans (Nat.mul_le_mul_left _ (by decide)) g2b19) g3b19 g4b19 (fun hfr => ?_)
  obtain ⟨h21, eh21, hf⟩ := ob hf
  refine sp_pRF (pc := 61) pf_RX8_29 rfl dX8_init_61 rfl rfl eh21 ?_
  refine sp_aload_n (pc := 64) dX8_init_64 0 rfl ?_
  refine sp_bipush (pc := 65) (v := 48) dX8_init_65 (by decide) ?_
  obtain ⟨b22, eb22, hf⟩ := ob hf
  obtain ⟨h23, eh23, hf⟩ := ob hf
  obtain rfl := Option.some.inj eh23
  obtain ⟨g1b22, g2b22, g3b22, g4b22⟩ := alN_spec eb22
  refine sp_newaZ (pc := 67) (bc2 := b22.1) (bs2 := b22.2) bk_231 dX8_init_67 g1b22 rfl (Nat.le_trans (Nat.mul_le_mul_left _ (by decide)) g2b22) g3b22 g4b22 (fun hfr => ?_)
  obtain ⟨h24, eh24, hf⟩ := ob hf
  refine sp_pRF (pc := 69) pf_RX8_32 rfl dX8_init_69 rfl rfl eh24 ?_
  refine sp_aload_n (pc := 72) dX8_init_72 0 rfl ?_
  refine sp_iconst (pc := 73) (v := 0) dX8_init_73 (by decide) ?_
  obtain ⟨h25, eh25, hf⟩ := ob hf
  refine sp_pIX (pc := 74) pf_RX8_35 dX8_init_74 eh25 ?_
  obtain rfl := Option.some.inj hf
  exact sp_return (pc := 77) dX8_init_77 rfl hQ

theorem m_X8_init {l : Launch} {Q : PST} {h : HP} {v0 : Nat} {sz : Nat} {res : HP × Nat} (hQ : Q (.inl none) res.1 res.2) (hf : f_X8_init h sz v0 = some res) : MM l M_X8_init [.ref v0] h sz Q := by
  rw [f_X8_init] at hf
  exact MM_of wok_X8_init (by decide +kernel) (Nat.le_of_ble_eq_true rfl) ((w_X8_init_0 hQ hf))

theorem dX8_thrown_0 : decode (mB M_X8_thrown) 0 = .ok (.aload_n 0, 1) := by decide +kernel
theorem dX8_thrown_1 : decode (mB M_X8_thrown) 1 = .ok (.getfield 35, 3) := by decide +kernel
theorem dX8_thrown_4 : decode (mB M_X8_thrown) 4 = .ok (.ireturn, 1) := by decide +kernel
def b_X8_thrown_0 (h : HP) (v0 : Nat) : Option (Int32) :=
  (gI 8 0 h v0).bind fun x1 => some (x1)
def f_X8_thrown (h : HP) (v0 : Nat) : Option (Int32) := (kO 8 h v0).bind fun _ => b_X8_thrown_0 h v0
theorem w_X8_thrown_0 {l : Launch} {X : SCR} {Q : PST} {bc bs : Nat} {res : Int32} {h : HP} (hQ : ∀ sz', Q (.inl (some (.int res))) h sz') {v0 : Nat} {sz : Nat} (hf : b_X8_thrown_0 h v0  = some res) : SP l X M_X8_thrown 0 [(0, .ref v0)] [] h sz bc bs Q := by
  rw [b_X8_thrown_0] at hf
  refine sp_aload_n (pc := 0) dX8_thrown_0 0 rfl ?_
  obtain ⟨x1, ex1, hf⟩ := ob hf
  refine sp_gI (pc := 1) fl_RX8_35 dX8_thrown_1 ex1 ?_
  obtain rfl := Option.some.inj hf
  exact sp_ireturn (pc := 4) dX8_thrown_4 rfl rfl (hQ _)

theorem o_X8_thrown {h : HP} {v0 : Nat} {res : Int32} (hf : f_X8_thrown h v0 = some res) : ∃ fs, h v0 = some (.inr (8, fs)) := by
  obtain ⟨u, eu, -⟩ := ob hf
  exact kO_spec eu

theorem m_X8_thrown {l : Launch} {Q : PST} {h : HP} {v0 : Nat} {sz : Nat} {res : Int32} (hQ : ∀ sz', Q (.inl (some (.int res))) h sz') (hf : f_X8_thrown h v0 = some res) : MM l M_X8_thrown [.ref v0] h sz Q := by
  obtain ⟨u, eu, hf⟩ := ob hf
  exact MM_of wok_X8_thrown (by decide +kernel) (Nat.le_of_ble_eq_true rfl) ((w_X8_thrown_0 hQ hf))

theorem dX8_in_0 : decode (mB M_X8_in) 0 = .ok (.iload_n 0, 1) := by decide +kernel
theorem dX8_in_1 : decode (mB M_X8_in) 1 = .ok (.iload_n 1, 1) := by decide +kernel
theorem dX8_in_2 : decode (mB M_X8_in) 2 = .ok (.if_icmp .lt 12, 3) := by decide +kernel
theorem dX8_in_5 : decode (mB M_X8_in) 5 = .ok (.iload_n 0, 1) := by decide +kernel
theorem dX8_in_6 : decode (mB M_X8_in) 6 = .ok (.iload_n 2, 1) := by decide +kernel
theorem dX8_in_7 : decode (mB M_X8_in) 7 = .ok (.if_icmp .gt 7, 3) := by decide +kernel
theorem dX8_in_10 : decode (mB M_X8_in) 10 = .ok (.iconst 1, 1) := by decide +kernel
theorem dX8_in_11 : decode (mB M_X8_in) 11 = .ok (.goto 4, 3) := by decide +kernel
theorem dX8_in_14 : decode (mB M_X8_in) 14 = .ok (.iconst 0, 1) := by decide +kernel
theorem dX8_in_15 : decode (mB M_X8_in) 15 = .ok (.ireturn, 1) := by decide +kernel
def b_X8_in_0 (h : HP) (v0 : Int32) (v1 : Int32) (v2 : Int32) : Option (Int32) :=
  if v0 < v1 then some (0) else if v2 < v0 then some (0) else some (1)
def f_X8_in (h : HP) (v0 : Int32) (v1 : Int32) (v2 : Int32) : Option (Int32) := b_X8_in_0 h v0 v1 v2
theorem w_X8_in_0 {l : Launch} {X : SCR} {Q : PST} {bc bs : Nat} {res : Int32} {h : HP} (hQ : ∀ sz', Q (.inl (some (.int res))) h sz') {v0 : Int32} {v1 : Int32} {v2 : Int32} {sz : Nat} (hf : b_X8_in_0 h v0 v1 v2  = some res) : SP l X M_X8_in 0 [(0, .int v0), (1, .int v1), (2, .int v2)] [] h sz bc bs Q := by
  rw [b_X8_in_0] at hf
  refine sp_iload_n (pc := 0) dX8_in_0 0 rfl ?_
  refine sp_iload_n (pc := 1) dX8_in_1 1 rfl ?_
  refine sp_icmp_lt (pc := 2) (tgt := 14) dX8_in_2 (by decide) (fun c1 => ?_) (fun c1 => ?_)
  · rw [if_pos c1] at hf
    refine sp_iconst (pc := 14) (v := 0) dX8_in_14 (by decide) ?_
    obtain rfl := Option.some.inj hf
    exact sp_ireturn (pc := 15) dX8_in_15 rfl rfl (hQ _)
  · rw [if_neg c1] at hf
    refine sp_iload_n (pc := 5) dX8_in_5 0 rfl ?_
    refine sp_iload_n (pc := 6) dX8_in_6 2 rfl ?_
    refine sp_icmp_gt (pc := 7) (tgt := 14) dX8_in_7 (by decide) (fun c2 => ?_) (fun c2 => ?_)
    · rw [if_pos c2] at hf
      refine sp_iconst (pc := 14) (v := 0) dX8_in_14 (by decide) ?_
      obtain rfl := Option.some.inj hf
      exact sp_ireturn (pc := 15) dX8_in_15 rfl rfl (hQ _)
    · rw [if_neg c2] at hf
      refine sp_iconst (pc := 10) (v := 1) dX8_in_10 (by decide) ?_
      refine sp_goto (pc := 11) (tgt := 15) dX8_in_11 (by decide) ?_
      obtain rfl := Option.some.inj hf
      exact sp_ireturn (pc := 15) dX8_in_15 rfl rfl (hQ _)

theorem m_X8_in {l : Launch} {Q : PST} {h : HP} {v0 : Int32} {v1 : Int32} {v2 : Int32} {sz : Nat} {res : Int32} (hQ : ∀ sz', Q (.inl (some (.int res))) h sz') (hf : f_X8_in h v0 v1 v2 = some res) : MM l M_X8_in [.int v0, .int v1, .int v2] h sz Q := by
  rw [f_X8_in] at hf
  exact MM_of wok_X8_in (by decide +kernel) (Nat.le_of_ble_eq_true rfl) ((w_X8_in_0 hQ hf))

theorem dX8_holds_0 : decode (mB M_X8_holds) 0 = .ok (.aload_n 0, 1) := by decide +kernel
theorem dX8_holds_1 : decode (mB M_X8_holds) 1 = .ok (.iload_n 1, 1) := by decide +kernel
theorem dX8_holds_2 : decode (mB M_X8_holds) 2 = .ok (.putfield 35, 3) := by decide +kernel
theorem dX8_holds_5 : decode (mB M_X8_holds) 5 = .ok (.iload_n 1, 1) := by decide +kernel
theorem dX8_holds_6 : decode (mB M_X8_holds) 6 = .ok (.ifCond .ne 7, 3) := by decide +kernel
theorem dX8_holds_9 : decode (mB M_X8_holds) 9 = .ok (.iconst 1, 1) := by decide +kernel
theorem dX8_holds_10 : decode (mB M_X8_holds) 10 = .ok (.goto 4, 3) := by decide +kernel
theorem dX8_holds_13 : decode (mB M_X8_holds) 13 = .ok (.iconst 0, 1) := by decide +kernel
theorem dX8_holds_14 : decode (mB M_X8_holds) 14 = .ok (.ireturn, 1) := by decide +kernel
def b_X8_holds_0 (v0 : Nat) (v1 : Int32) (h : HP) : Option (Int32 × HP) :=
  (pI 8 0 h v0 v1).bind fun h1 => if v1 = 0 then some (1, h1) else some (0, h1)
def f_X8_holds (h : HP) (v0 : Nat) (v1 : Int32) : Option (Int32 × HP) := (kO 8 h v0).bind fun _ => b_X8_holds_0 v0 v1 h
theorem w_X8_holds_0 {l : Launch} {X : SCR} {Q : PST} {bc bs : Nat} {res : Int32 × HP} {h : HP} (hQ : ∀ sz', Q (.inl (some (.int res.1))) res.2 sz') {v0 : Nat} {v1 : Int32} {sz : Nat} (hf : b_X8_holds_0 v0 v1 h  = some res) : SP l X M_X8_holds 0 [(0, .ref v0), (1, .int v1)] [] h sz bc bs Q := by
  rw [b_X8_holds_0] at hf
  refine sp_aload_n (pc := 0) dX8_holds_0 0 rfl ?_
  refine sp_iload_n (pc := 1) dX8_holds_1 1 rfl ?_
  obtain ⟨h1, eh1, hf⟩ := ob hf
  refine sp_pI (pc := 2) pf_RX8_35 dX8_holds_2 eh1 (fun sz => ?_)
  refine sp_iload_n (pc := 5) dX8_holds_5 1 rfl ?_
  refine sp_if_ne (pc := 6) (tgt := 13) dX8_holds_6 (by decide) (fun c2 => ?_) (fun c2 => ?_)
  · rw [if_neg c2] at hf
    refine sp_iconst (pc := 13) (v := 0) dX8_holds_13 (by decide) ?_
    obtain rfl := Option.some.inj hf
    exact sp_ireturn (pc := 14) dX8_holds_14 rfl rfl (hQ _)
  · rw [if_pos c2] at hf
    refine sp_iconst (pc := 9) (v := 1) dX8_holds_9 (by decide) ?_
    refine sp_goto (pc := 10) (tgt := 14) dX8_holds_10 (by decide) ?_
    obtain rfl := Option.some.inj hf
    exact sp_ireturn (pc := 14) dX8_holds_14 rfl rfl (hQ _)

theorem o_X8_holds {h : HP} {v0 : Nat} {v1 : Int32} {res : Int32 × HP} (hf : f_X8_holds h v0 v1 = some res) : ∃ fs, h v0 = some (.inr (8, fs)) := by
  obtain ⟨u, eu, -⟩ := ob hf
  exact kO_spec eu

theorem m_X8_holds {l : Launch} {Q : PST} {h : HP} {v0 : Nat} {v1 : Int32} {sz : Nat} {res : Int32 × HP} (hQ : ∀ sz', Q (.inl (some (.int res.1))) res.2 sz') (hf : f_X8_holds h v0 v1 = some res) : MM l M_X8_holds [.ref v0, .int v1] h sz Q := by
  obtain ⟨u, eu, hf⟩ := ob hf
  exact MM_of wok_X8_holds (by decide +kernel) (Nat.le_of_ble_eq_true rfl) ((w_X8_holds_0 hQ hf))

theorem dX8_of_0 : decode (mB M_X8_of) 0 = .ok (.bipush 12, 2) := by decide +kernel
theorem dX8_of_2 : decode (mB M_X8_of) 2 = .ok (.iconst 4, 1) := by decide +kernel
theorem dX8_of_3 : decode (mB M_X8_of) 3 = .ok (.iload_n 0, 1) := by decide +kernel
theorem dX8_of_4 : decode (mB M_X8_of) 4 = .ok (.imul, 1) := by decide +kernel
theorem dX8_of_5 : decode (mB M_X8_of) 5 = .ok (.iadd, 1) := by decide +kernel
theorem dX8_of_6 : decode (mB M_X8_of) 6 = .ok (.iload_n 1, 1) := by decide +kernel
theorem dX8_of_7 : decode (mB M_X8_of) 7 = .ok (.iadd, 1) := by decide +kernel
theorem dX8_of_8 : decode (mB M_X8_of) 8 = .ok (.ireturn, 1) := by decide +kernel
def b_X8_of_0 (h : HP) (v0 : Int32) (v1 : Int32) : Option (Int32) :=
  some ((12 + (4 * v0)) + v1)
def f_X8_of (h : HP) (v0 : Int32) (v1 : Int32) : Option (Int32) := b_X8_of_0 h v0 v1
theorem w_X8_of_0 {l : Launch} {X : SCR} {Q : PST} {bc bs : Nat} {res : Int32} {h : HP} (hQ : ∀ sz', Q (.inl (some (.int res))) h sz') {v0 : Int32} {v1 : Int32} {sz : Nat} (hf : b_X8_of_0 h v0 v1  = some res) : SP l X M_X8_of 0 [(0, .int v0), (1, .int v1)] [] h sz bc bs Q := by
  rw [b_X8_of_0] at hf
  refine sp_bipush (pc := 0) (v := 12) dX8_of_0 (by decide) ?_
  refine sp_iconst (pc := 2) (v := 4) dX8_of_2 (by decide) ?_
  refine sp_iload_n (pc := 3) dX8_of_3 0 rfl ?_
  refine sp_imul (pc := 4) dX8_of_4 ?_
  refine sp_iadd (pc := 5) dX8_of_5 ?_
  refine sp_iload_n (pc := 6) dX8_of_6 1 rfl ?_
  refine sp_iadd (pc := 7) dX8_of_7 ?_
  obtain rfl := Option.some.inj hf
  exact sp_ireturn (pc := 8) dX8_of_8 rfl rfl (hQ _)

theorem m_X8_of {l : Launch} {Q : PST} {h : HP} {v0 : Int32} {v1 : Int32} {sz : Nat} {res : Int32} (hQ : ∀ sz', Q (.inl (some (.int res))) h sz') (hf : f_X8_of h v0 v1 = some res) : MM l M_X8_of [.int v0, .int v1] h sz Q := by
  rw [f_X8_of] at hf
  exact MM_of wok_X8_of (by decide +kernel) (Nat.le_of_ble_eq_true rfl) ((w_X8_of_0 hQ hf))

theorem dX8_isKey_0 : decode (mB M_X8_isKey) 0 = .ok (.iload_n 0, 1) := by decide +kernel
theorem dX8_isKey_1 : decode (mB M_X8_isKey) 1 = .ok (.iconst 0, 1) := by decide +kernel
theorem dX8_isKey_2 : decode (mB M_X8_isKey) 2 = .ok (.bipush 99, 2) := by decide +kernel
theorem dX8_isKey_4 : decode (mB M_X8_isKey) 4 = .ok (.invokestatic 39, 3) := by decide +kernel
theorem dX8_isKey_7 : decode (mB M_X8_isKey) 7 = .ok (.ireturn, 1) := by decide +kernel
def b_X8_isKey_0 (h : HP) (v0 : Int32) : Option (Int32) :=
  (f_X8_in h v0 0 99).bind fun y1 => bz y1
def f_X8_isKey (h : HP) (v0 : Int32) : Option (Int32) := b_X8_isKey_0 h v0
theorem w_X8_isKey_0 {l : Launch} {X : SCR} {Q : PST} {bc bs : Nat} {res : Int32} {h : HP} (hQ : ∀ sz', Q (.inl (some (.int res))) h sz') {v0 : Int32} {sz : Nat} (hf : b_X8_isKey_0 h v0  = some res) : SP l X M_X8_isKey 0 [(0, .int v0)] [] h sz bc bs Q := by
  rw [b_X8_isKey_0] at hf
  refine sp_iload_n (pc := 0) dX8_isKey_0 0 rfl ?_
  refine sp_iconst (pc := 1) (v := 0) dX8_isKey_1 (by decide) ?_
  refine sp_bipush (pc := 2) (v := 99) dX8_isKey_2 (by decide) ?_
  obtain ⟨y1, ey1, hf⟩ := ob hf
  refine sp_callSi (pc := 4) (z := M_X8_in) (As := [.int v0, .int 0, .int 99]) (bc2 := bc) (bs2 := bs) (m_X8_in (Q := _) (fun sz => ⟨y1, rfl, ?_⟩) ey1) rfl dX8_isKey_4 rfl ck_X8_isKey_39 (Nat.le_of_ble_eq_true rfl) rfl rfl rfl
  exact sp_iretZ (pc := 7) dX8_isKey_7 rfl hf (hQ _)

theorem m_X8_isKey {l : Launch} {Q : PST} {h : HP} {v0 : Int32} {sz : Nat} {res : Int32} (hQ : ∀ sz', Q (.inl (some (.int res))) h sz') (hf : f_X8_isKey h v0 = some res) : MM l M_X8_isKey [.int v0] h sz Q := by
  rw [f_X8_isKey] at hf
  exact MM_of wok_X8_isKey (by decide +kernel) (Nat.le_of_ble_eq_true rfl) ((w_X8_isKey_0 hQ hf))

theorem dX8_isRun_0 : decode (mB M_X8_isRun) 0 = .ok (.iload_n 1, 1) := by decide +kernel
theorem dX8_isRun_1 : decode (mB M_X8_isRun) 1 = .ok (.iconst 0, 1) := by decide +kernel
theorem dX8_isRun_2 : decode (mB M_X8_isRun) 2 = .ok (.aload_n 0, 1) := by decide +kernel
theorem dX8_isRun_3 : decode (mB M_X8_isRun) 3 = .ok (.getfield 7, 3) := by decide +kernel
theorem dX8_isRun_6 : decode (mB M_X8_isRun) 6 = .ok (.iconst 0, 1) := by decide +kernel
theorem dX8_isRun_7 : decode (mB M_X8_isRun) 7 = .ok (.iaload, 1) := by decide +kernel
theorem dX8_isRun_8 : decode (mB M_X8_isRun) 8 = .ok (.iconst 1, 1) := by decide +kernel
theorem dX8_isRun_9 : decode (mB M_X8_isRun) 9 = .ok (.isub, 1) := by decide +kernel
theorem dX8_isRun_10 : decode (mB M_X8_isRun) 10 = .ok (.invokestatic 39, 3) := by decide +kernel
theorem dX8_isRun_13 : decode (mB M_X8_isRun) 13 = .ok (.ireturn, 1) := by decide +kernel
def b_X8_isRun_0 (h : HP) (v0 : Nat) (v1 : Int32) : Option (Int32) :=
  (gR 8 1 h v0).bind fun x1 => (aI h x1 0).bind fun x2 => (f_X8_in h v1 0 (x2 - 1)).bind fun y3 => bz y3
def f_X8_isRun (h : HP) (v0 : Nat) (v1 : Int32) : Option (Int32) := (kO 8 h v0).bind fun _ => b_X8_isRun_0 h v0 v1
theorem w_X8_isRun_0 {l : Launch} {X : SCR} {Q : PST} {bc bs : Nat} {res : Int32} {h : HP} (hQ : ∀ sz', Q (.inl (some (.int res))) h sz') {v0 : Nat} {v1 : Int32} {sz : Nat} (hf : b_X8_isRun_0 h v0 v1  = some res) : SP l X M_X8_isRun 0 [(0, .ref v0), (1, .int v1)] [] h sz bc bs Q := by
  rw [b_X8_isRun_0] at hf
  refine sp_iload_n (pc := 0) dX8_isRun_0 1 rfl ?_
  refine sp_iconst (pc := 1) (v := 0) dX8_isRun_1 (by decide) ?_
  refine sp_aload_n (pc := 2) dX8_isRun_2 0 rfl ?_
  obtain ⟨x1, ex1, hf⟩ := ob hf
  refine sp_gR (pc := 3) fl_RX8_7 dX8_isRun_3 ex1 ?_
  refine sp_iconst (pc := 6) (v := 0) dX8_isRun_6 (by decide) ?_
  obtain ⟨x2, ex2, hf⟩ := ob hf
  refine sp_aI (pc := 7) dX8_isRun_7 ex2 ?_
  refine sp_iconst (pc := 8) (v := 1) dX8_isRun_8 (by decide) ?_
  refine sp_isub (pc := 9) dX8_isRun_9 ?_
  obtain ⟨y3, ey3, hf⟩ := ob hf
  refine sp_callSi (pc := 10) (z := M_X8_in) (As := [.int v1, .int 0, .int (x2 - 1)]) (bc2 := bc) (bs2 := bs) (m_X8_in (Q := _) (fun sz => ⟨y3, rfl, ?_⟩) ey3) rfl dX8_isRun_10 rfl ck_X8_isRun_39 (Nat.le_of_ble_eq_true rfl) rfl rfl rfl
  exact sp_iretZ (pc := 13) dX8_isRun_13 rfl hf (hQ _)

theorem o_X8_isRun {h : HP} {v0 : Nat} {v1 : Int32} {res : Int32} (hf : f_X8_isRun h v0 v1 = some res) : ∃ fs, h v0 = some (.inr (8, fs)) := by
  obtain ⟨u, eu, -⟩ := ob hf
  exact kO_spec eu

theorem m_X8_isRun {l : Launch} {Q : PST} {h : HP} {v0 : Nat} {v1 : Int32} {sz : Nat} {res : Int32} (hQ : ∀ sz', Q (.inl (some (.int res))) h sz') (hf : f_X8_isRun h v0 v1 = some res) : MM l M_X8_isRun [.ref v0, .int v1] h sz Q := by
  obtain ⟨u, eu, hf⟩ := ob hf
  exact MM_of wok_X8_isRun (by decide +kernel) (Nat.le_of_ble_eq_true rfl) ((w_X8_isRun_0 hQ hf))

theorem dX8_isEye_0 : decode (mB M_X8_isEye) 0 = .ok (.iload_n 1, 1) := by decide +kernel
theorem dX8_isEye_1 : decode (mB M_X8_isEye) 1 = .ok (.iconst 0, 1) := by decide +kernel
theorem dX8_isEye_2 : decode (mB M_X8_isEye) 2 = .ok (.aload_n 0, 1) := by decide +kernel
theorem dX8_isEye_3 : decode (mB M_X8_isEye) 3 = .ok (.getfield 7, 3) := by decide +kernel
theorem dX8_isEye_6 : decode (mB M_X8_isEye) 6 = .ok (.bipush 7, 2) := by decide +kernel
theorem dX8_isEye_8 : decode (mB M_X8_isEye) 8 = .ok (.iaload, 1) := by decide +kernel
theorem dX8_isEye_9 : decode (mB M_X8_isEye) 9 = .ok (.iconst 1, 1) := by decide +kernel
theorem dX8_isEye_10 : decode (mB M_X8_isEye) 10 = .ok (.isub, 1) := by decide +kernel
theorem dX8_isEye_11 : decode (mB M_X8_isEye) 11 = .ok (.invokestatic 39, 3) := by decide +kernel
theorem dX8_isEye_14 : decode (mB M_X8_isEye) 14 = .ok (.ireturn, 1) := by decide +kernel
def b_X8_isEye_0 (h : HP) (v0 : Nat) (v1 : Int32) : Option (Int32) :=
  (gR 8 1 h v0).bind fun x1 => (aI h x1 7).bind fun x2 => (f_X8_in h v1 0 (x2 - 1)).bind fun y3 => bz y3
def f_X8_isEye (h : HP) (v0 : Nat) (v1 : Int32) : Option (Int32) := (kO 8 h v0).bind fun _ => b_X8_isEye_0 h v0 v1
theorem w_X8_isEye_0 {l : Launch} {X : SCR} {Q : PST} {bc bs : Nat} {res : Int32} {h : HP} (hQ : ∀ sz', Q (.inl (some (.int res))) h sz') {v0 : Nat} {v1 : Int32} {sz : Nat} (hf : b_X8_isEye_0 h v0 v1  = some res) : SP l X M_X8_isEye 0 [(0, .ref v0), (1, .int v1)] [] h sz bc bs Q := by
  rw [b_X8_isEye_0] at hf
  refine sp_iload_n (pc := 0) dX8_isEye_0 1 rfl ?_
  refine sp_iconst (pc := 1) (v := 0) dX8_isEye_1 (by decide) ?_
  refine sp_aload_n (pc := 2) dX8_isEye_2 0 rfl ?_
  obtain ⟨x1, ex1, hf⟩ := ob hf
  refine sp_gR (pc := 3) fl_RX8_7 dX8_isEye_3 ex1 ?_
  refine sp_bipush (pc := 6) (v := 7) dX8_isEye_6 (by decide) ?_
  obtain ⟨x2, ex2, hf⟩ := ob hf
  refine sp_aI (pc := 8) dX8_isEye_8 ex2 ?_
  refine sp_iconst (pc := 9) (v := 1) dX8_isEye_9 (by decide) ?_
  refine sp_isub (pc := 10) dX8_isEye_10 ?_
  obtain ⟨y3, ey3, hf⟩ := ob hf
  refine sp_callSi (pc := 11) (z := M_X8_in) (As := [.int v1, .int 0, .int (x2 - 1)]) (bc2 := bc) (bs2 := bs) (m_X8_in (Q := _) (fun sz => ⟨y3, rfl, ?_⟩) ey3) rfl dX8_isEye_11 rfl ck_X8_isEye_39 (Nat.le_of_ble_eq_true rfl) rfl rfl rfl
  exact sp_iretZ (pc := 14) dX8_isEye_14 rfl hf (hQ _)

theorem o_X8_isEye {h : HP} {v0 : Nat} {v1 : Int32} {res : Int32} (hf : f_X8_isEye h v0 v1 = some res) : ∃ fs, h v0 = some (.inr (8, fs)) := by
  obtain ⟨u, eu, -⟩ := ob hf
  exact kO_spec eu

theorem m_X8_isEye {l : Launch} {Q : PST} {h : HP} {v0 : Nat} {v1 : Int32} {sz : Nat} {res : Int32} (hQ : ∀ sz', Q (.inl (some (.int res))) h sz') (hf : f_X8_isEye h v0 v1 = some res) : MM l M_X8_isEye [.ref v0, .int v1] h sz Q := by
  obtain ⟨u, eu, hf⟩ := ob hf
  exact MM_of wok_X8_isEye (by decide +kernel) (Nat.le_of_ble_eq_true rfl) ((w_X8_isEye_0 hQ hf))

theorem dX8_remember_0 : decode (mB M_X8_remember) 0 = .ok (.aload_n 0, 1) := by decide +kernel
theorem dX8_remember_1 : decode (mB M_X8_remember) 1 = .ok (.getfield 43, 3) := by decide +kernel
theorem dX8_remember_4 : decode (mB M_X8_remember) 4 = .ok (.bipush 14, 2) := by decide +kernel
theorem dX8_remember_6 : decode (mB M_X8_remember) 6 = .ok (.if_icmp .ne 44, 3) := by decide +kernel
theorem dX8_remember_9 : decode (mB M_X8_remember) 9 = .ok (.iconst 0, 1) := by decide +kernel
theorem dX8_remember_10 : decode (mB M_X8_remember) 10 = .ok (.istore_n 1, 1) := by decide +kernel
theorem dX8_remember_11 : decode (mB M_X8_remember) 11 = .ok (.iload_n 1, 1) := by decide +kernel
theorem dX8_remember_12 : decode (mB M_X8_remember) 12 = .ok (.sipush 2652, 3) := by decide +kernel
theorem dX8_remember_15 : decode (mB M_X8_remember) 15 = .ok (.if_icmp .ge 25, 3) := by decide +kernel
theorem dX8_remember_18 : decode (mB M_X8_remember) 18 = .ok (.aload_n 0, 1) := by decide +kernel
theorem dX8_remember_19 : decode (mB M_X8_remember) 19 = .ok (.getfield 16, 3) := by decide +kernel
theorem dX8_remember_22 : decode (mB M_X8_remember) 22 = .ok (.iload_n 1, 1) := by decide +kernel
theorem dX8_remember_23 : decode (mB M_X8_remember) 23 = .ok (.aload_n 0, 1) := by decide +kernel
theorem dX8_remember_24 : decode (mB M_X8_remember) 24 = .ok (.getfield 16, 3) := by decide +kernel
theorem dX8_remember_27 : decode (mB M_X8_remember) 27 = .ok (.sipush 204, 3) := by decide +kernel
theorem dX8_remember_30 : decode (mB M_X8_remember) 30 = .ok (.iload_n 1, 1) := by decide +kernel
theorem dX8_remember_31 : decode (mB M_X8_remember) 31 = .ok (.iadd, 1) := by decide +kernel
theorem dX8_remember_32 : decode (mB M_X8_remember) 32 = .ok (.iaload, 1) := by decide +kernel
theorem dX8_remember_33 : decode (mB M_X8_remember) 33 = .ok (.iastore, 1) := by decide +kernel
theorem dX8_remember_34 : decode (mB M_X8_remember) 34 = .ok (.iinc 1 1, 3) := by decide +kernel
theorem dX8_remember_37 : decode (mB M_X8_remember) 37 = .ok (.goto (-26), 3) := by decide +kernel
theorem dX8_remember_40 : decode (mB M_X8_remember) 40 = .ok (.aload_n 0, 1) := by decide +kernel
theorem dX8_remember_41 : decode (mB M_X8_remember) 41 = .ok (.dup, 1) := by decide +kernel
theorem dX8_remember_42 : decode (mB M_X8_remember) 42 = .ok (.getfield 43, 3) := by decide +kernel
theorem dX8_remember_45 : decode (mB M_X8_remember) 45 = .ok (.iconst 1, 1) := by decide +kernel
theorem dX8_remember_46 : decode (mB M_X8_remember) 46 = .ok (.isub, 1) := by decide +kernel
theorem dX8_remember_47 : decode (mB M_X8_remember) 47 = .ok (.putfield 43, 3) := by decide +kernel
theorem dX8_remember_50 : decode (mB M_X8_remember) 50 = .ok (.iconst 0, 1) := by decide +kernel
theorem dX8_remember_51 : decode (mB M_X8_remember) 51 = .ok (.istore_n 1, 1) := by decide +kernel
theorem dX8_remember_52 : decode (mB M_X8_remember) 52 = .ok (.iload_n 1, 1) := by decide +kernel
theorem dX8_remember_53 : decode (mB M_X8_remember) 53 = .ok (.sipush 204, 3) := by decide +kernel
theorem dX8_remember_56 : decode (mB M_X8_remember) 56 = .ok (.if_icmp .ge 30, 3) := by decide +kernel
theorem dX8_remember_59 : decode (mB M_X8_remember) 59 = .ok (.aload_n 0, 1) := by decide +kernel
theorem dX8_remember_60 : decode (mB M_X8_remember) 60 = .ok (.getfield 16, 3) := by decide +kernel
theorem dX8_remember_63 : decode (mB M_X8_remember) 63 = .ok (.sipush 204, 3) := by decide +kernel
theorem dX8_remember_66 : decode (mB M_X8_remember) 66 = .ok (.aload_n 0, 1) := by decide +kernel
theorem dX8_remember_67 : decode (mB M_X8_remember) 67 = .ok (.getfield 43, 3) := by decide +kernel
theorem dX8_remember_70 : decode (mB M_X8_remember) 70 = .ok (.imul, 1) := by decide +kernel
theorem dX8_remember_71 : decode (mB M_X8_remember) 71 = .ok (.iload_n 1, 1) := by decide +kernel
theorem dX8_remember_72 : decode (mB M_X8_remember) 72 = .ok (.iadd, 1) := by decide +kernel
theorem dX8_remember_73 : decode (mB M_X8_remember) 73 = .ok (.aload_n 0, 1) := by decide +kernel
theorem dX8_remember_74 : decode (mB M_X8_remember) 74 = .ok (.getfield 7, 3) := by decide +kernel
theorem dX8_remember_77 : decode (mB M_X8_remember) 77 = .ok (.iload_n 1, 1) := by decide +kernel
theorem dX8_remember_78 : decode (mB M_X8_remember) 78 = .ok (.iaload, 1) := by decide +kernel
theorem dX8_remember_79 : decode (mB M_X8_remember) 79 = .ok (.iastore, 1) := by decide +kernel
theorem dX8_remember_80 : decode (mB M_X8_remember) 80 = .ok (.iinc 1 1, 3) := by decide +kernel
theorem dX8_remember_83 : decode (mB M_X8_remember) 83 = .ok (.goto (-31), 3) := by decide +kernel
theorem dX8_remember_86 : decode (mB M_X8_remember) 86 = .ok (.aload_n 0, 1) := by decide +kernel
theorem dX8_remember_87 : decode (mB M_X8_remember) 87 = .ok (.dup, 1) := by decide +kernel
theorem dX8_remember_88 : decode (mB M_X8_remember) 88 = .ok (.getfield 43, 3) := by decide +kernel
theorem dX8_remember_91 : decode (mB M_X8_remember) 91 = .ok (.iconst 1, 1) := by decide +kernel
theorem dX8_remember_92 : decode (mB M_X8_remember) 92 = .ok (.iadd, 1) := by decide +kernel
theorem dX8_remember_93 : decode (mB M_X8_remember) 93 = .ok (.putfield 43, 3) := by decide +kernel
theorem dX8_remember_96 : decode (mB M_X8_remember) 96 = .ok (.return_, 1) := by decide +kernel
def c_X8_remember_52 (v0 : Nat) (k52 : HP → Int32 → Option (HP)) (h : HP) (v1 : Int32) : Option (HP) :=
  if 204 ≤ v1 then (gI 8 4 h v0).bind fun x2 => (pI 8 4 h v0 (x2 + 1)).bind fun h3 => some h3 else (gR 8 3 h v0).bind fun x4 => (gI 8 4 h v0).bind fun x5 => (gR 8 1 h v0).bind fun x6 => (aI h x6 v1).bind fun x7 => (wI h x4 ((204 * x5) + v1) x7).bind fun h8 => k52 h8 (v1 + 1)
def b_X8_remember_52 (v0 : Nat) : Nat → HP → Int32 → Option (HP)
  | 0, _, _ => none
  | n + 1, h, v1 => c_X8_remember_52 v0 (b_X8_remember_52 v0 n) h v1
def c_X8_remember_11 (v0 : Nat) (k11 : HP → Int32 → Option (HP)) (h : HP) (v1 : Int32) : Option (HP) :=
  if 2652 ≤ v1 then (gI 8 4 h v0).bind fun x2 => (pI 8 4 h v0 (x2 - 1)).bind fun h3 => b_X8_remember_52 v0 FU h3 0 else (gR 8 3 h v0).bind fun x4 => (gR 8 3 h v0).bind fun x5 => (aI h x5 (204 + v1)).bind fun x6 => (wI h x4 v1 x6).bind fun h7 => k11 h7 (v1 + 1)
def b_X8_remember_11 (v0 : Nat) : Nat → HP → Int32 → Option (HP)
  | 0, _, _ => none
  | n + 1, h, v1 => c_X8_remember_11 v0 (b_X8_remember_11 v0 n) h v1
def b_X8_remember_0 (v0 : Nat) (h : HP) : Option (HP) :=
  (gI 8 4 h v0).bind fun x1 => if x1 = 14 then b_X8_remember_11 v0 FU h 0 else b_X8_remember_52 v0 FU h 0
def f_X8_remember (h : HP) (v0 : Nat) : Option (HP) := (kO 8 h v0).bind fun _ => b_X8_remember_0 v0 h
theorem wc_X8_remember_52 {l : Launch} {X : SCR} {Q : PST} {bc bs : Nat} {res : HP} (hQ : ∀ sz', Q (.inl none) res sz') {v0 : Nat} {k52 : HP → Int32 → Option (HP)} (hk52 : ∀ (h : HP) (v1 : Int32) (sz : Nat), k52 h v1 = some res → SP l X M_X8_remember 52 [(0, .ref v0), (1, .int v1)] [] h sz bc bs Q) {h : HP} {v1 : Int32} {sz : Nat} (hf : c_X8_remember_52 v0 k52 h v1 = some res) : SP l X M_X8_remember 52 [(0, .ref v0), (1, .int v1)] [] h sz bc bs Q := by
  rw [c_X8_remember_52] at hf
  refine sp_iload_n (pc := 52) dX8_remember_52 1 rfl ?_
  refine sp_sipush (pc := 53) (v := 204) dX8_remember_53 (by decide) ?_
  refine sp_icmp_ge (pc := 56) (tgt := 86) dX8_remember_56 (by decide) (fun c1 => ?_) (fun c1 => ?_)
  · rw [if_pos c1] at hf
    refine sp_aload_n (pc := 86) dX8_remember_86 0 rfl ?_
    refine sp_dup (pc := 87) dX8_remember_87 rfl ?_
    obtain ⟨x2, ex2, hf⟩ := ob hf
    refine sp_gI (pc := 88) fl_RX8_43 dX8_remember_88 ex2 ?_
    refine sp_iconst (pc := 91) (v := 1) dX8_remember_91 (by decide) ?_
    refine sp_iadd (pc := 92) dX8_remember_92 ?_
    obtain ⟨h3, eh3, hf⟩ := ob hf
    refine sp_pI (pc := 93) pf_RX8_43 dX8_remember_93 eh3 (fun sz => ?_)
    obtain rfl := Option.some.inj hf
    exact sp_return (pc := 96) dX8_remember_96 rfl (hQ _)
  · rw [if_neg c1] at hf
    refine sp_aload_n (pc := 59) dX8_remember_59 0 rfl ?_
    obtain ⟨x4, ex4, hf⟩ := ob hf
    refine sp_gR (pc := 60) fl_RX8_16 dX8_remember_60 ex4 ?_
    refine sp_sipush (pc := 63) (v := 204) dX8_remember_63 (by decide) ?_
    refine sp_aload_n (pc := 66) dX8_remember_66 0 rfl ?_
    obtain ⟨x5, ex5, hf⟩ := ob hf
    refine sp_gI (pc := 67) fl_RX8_43 dX8_remember_67 ex5 ?_
    refine sp_imul (pc := 70) dX8_remember_70 ?_
    refine sp_iload_n (pc := 71) dX8_remember_71 1 rfl ?_
    refine sp_iadd (pc := 72) dX8_remember_72 ?_
    refine sp_aload_n (pc := 73) dX8_remember_73 0 rfl ?_
    obtain ⟨x6, ex6, hf⟩ := ob hf
    refine sp_gR (pc := 74) fl_RX8_7 dX8_remember_74 ex6 ?_
    refine sp_iload_n (pc := 77) dX8_remember_77 1 rfl ?_
    obtain ⟨x7, ex7, hf⟩ := ob hf
    refine sp_aI (pc := 78) dX8_remember_78 ex7 ?_
    obtain ⟨h8, eh8, hf⟩ := ob hf
    refine sp_wI (pc := 79) dX8_remember_79 eh8 (fun sz => ?_)
    refine sp_iinc (pc := 80) (v := v1 + 1) (lv' := [(1, .int (v1 + 1)), (0, .ref v0)]) dX8_remember_80 1 rfl rfl (by decide) rfl ?_
    refine sp_goto (pc := 83) (tgt := 52) dX8_remember_83 (by decide) ?_
    exact sp_sub [1, 0] rfl (hk52 _ _ _ hf)

theorem w_X8_remember_52 {l : Launch} {X : SCR} {Q : PST} {bc bs : Nat} {res : HP} (hQ : ∀ sz', Q (.inl none) res sz') {v0 : Nat} : ∀ (n : Nat) {h : HP} {v1 : Int32} {sz : Nat}, b_X8_remember_52 v0 n h v1 = some res → SP l X M_X8_remember 52 [(0, .ref v0), (1, .int v1)] [] h sz bc bs Q := by
  intro n
  induction n with
  | zero =>
    intro h v1 sz hf
    rw [b_X8_remember_52] at hf
    cases hf
  | succ n ih =>
    intro h v1 sz hf
    rw [b_X8_remember_52] at hf
    exact wc_X8_remember_52 hQ (fun h v1 sz hf => ih hf) hf

theorem wc_X8_remember_11 {l : Launch} {X : SCR} {Q : PST} {bc bs : Nat} {res : HP} (hQ : ∀ sz', Q (.inl none) res sz') {v0 : Nat} {k11 : HP → Int32 → Option (HP)} (hk11 : ∀ (h : HP) (v1 : Int32) (sz : Nat), k11 h v1 = some res → SP l X M_X8_remember 11 [(0, .ref v0), (1, .int v1)] [] h sz bc bs Q) {h : HP} {v1 : Int32} {sz : Nat} (hf : c_X8_remember_11 v0 k11 h v1 = some res) : SP l X M_X8_remember 11 [(0, .ref v0), (1, .int v1)] [] h sz bc bs Q := by
  rw [c_X8_remember_11] at hf
  refine sp_iload_n (pc := 11) dX8_remember_11 1 rfl ?_
  refine sp_sipush (pc := 12) (v := 2652) dX8_remember_12 (by decide) ?_
  refine sp_icmp_ge (pc := 15) (tgt := 40) dX8_remember_15 (by decide) (fun c1 => ?_) (fun c1 => ?_)
  · rw [if_pos c1] at hf
    refine sp_aload_n (pc := 40) dX8_remember_40 0 rfl ?_
    refine sp_dup (pc := 41) dX8_remember_41 rfl ?_
    obtain ⟨x2, ex2, hf⟩ := ob hf
    refine sp_gI (pc := 42) fl_RX8_43 dX8_remember_42 ex2 ?_
    refine sp_iconst (pc := 45) (v := 1) dX8_remember_45 (by decide) ?_
    refine sp_isub (pc := 46) dX8_remember_46 ?_
    obtain ⟨h3, eh3, hf⟩ := ob hf
    refine sp_pI (pc := 47) pf_RX8_43 dX8_remember_47 eh3 (fun sz => ?_)
    refine sp_iconst (pc := 50) (v := 0) dX8_remember_50 (by decide) ?_
    refine sp_istore_n (pc := 51) (lv' := [(1, .int 0), (0, .ref v0)]) dX8_remember_51 (by decide) rfl ?_
    exact sp_sub [1, 0] rfl (w_X8_remember_52 hQ FU hf)
  · rw [if_neg c1] at hf
    refine sp_aload_n (pc := 18) dX8_remember_18 0 rfl ?_
    obtain ⟨x4, ex4, hf⟩ := ob hf
    refine sp_gR (pc := 19) fl_RX8_16 dX8_remember_19 ex4 ?_
    refine sp_iload_n (pc := 22) dX8_remember_22 1 rfl ?_
    refine sp_aload_n (pc := 23) dX8_remember_23 0 rfl ?_
    obtain ⟨x5, ex5, hf⟩ := ob hf
    refine sp_gR (pc := 24) fl_RX8_16 dX8_remember_24 ex5 ?_
    refine sp_sipush (pc := 27) (v := 204) dX8_remember_27 (by decide) ?_
    refine sp_iload_n (pc := 30) dX8_remember_30 1 rfl ?_
    refine sp_iadd (pc := 31) dX8_remember_31 ?_
    obtain ⟨x6, ex6, hf⟩ := ob hf
    refine sp_aI (pc := 32) dX8_remember_32 ex6 ?_
    obtain ⟨h7, eh7, hf⟩ := ob hf
    refine sp_wI (pc := 33) dX8_remember_33 eh7 (fun sz => ?_)
    refine sp_iinc (pc := 34) (v := v1 + 1) (lv' := [(1, .int (v1 + 1)), (0, .ref v0)]) dX8_remember_34 1 rfl rfl (by decide) rfl ?_
    refine sp_goto (pc := 37) (tgt := 11) dX8_remember_37 (by decide) ?_
    exact sp_sub [1, 0] rfl (hk11 _ _ _ hf)

theorem w_X8_remember_11 {l : Launch} {X : SCR} {Q : PST} {bc bs : Nat} {res : HP} (hQ : ∀ sz', Q (.inl none) res sz') {v0 : Nat} : ∀ (n : Nat) {h : HP} {v1 : Int32} {sz : Nat}, b_X8_remember_11 v0 n h v1 = some res → SP l X M_X8_remember 11 [(0, .ref v0), (1, .int v1)] [] h sz bc bs Q := by
  intro n
  induction n with
  | zero =>
    intro h v1 sz hf
    rw [b_X8_remember_11] at hf
    cases hf
  | succ n ih =>
    intro h v1 sz hf
    rw [b_X8_remember_11] at hf
    exact wc_X8_remember_11 hQ (fun h v1 sz hf => ih hf) hf

theorem w_X8_remember_0 {l : Launch} {X : SCR} {Q : PST} {bc bs : Nat} {res : HP} {h : HP} (hQ : ∀ sz', Q (.inl none) res sz') {v0 : Nat} {sz : Nat} (hf : b_X8_remember_0 v0 h  = some res) : SP l X M_X8_remember 0 [(0, .ref v0)] [] h sz bc bs Q := by
  rw [b_X8_remember_0] at hf
  refine sp_aload_n (pc := 0) dX8_remember_0 0 rfl ?_
  obtain ⟨x1, ex1, hf⟩ := ob hf
  refine sp_gI (pc := 1) fl_RX8_43 dX8_remember_1 ex1 ?_
  refine sp_bipush (pc := 4) (v := 14) dX8_remember_4 (by decide) ?_
  refine sp_icmp_ne (pc := 6) (tgt := 50) dX8_remember_6 (by decide) (fun c2 => ?_) (fun c2 => ?_)
  · rw [if_neg c2] at hf
    refine sp_iconst (pc := 50) (v := 0) dX8_remember_50 (by decide) ?_
    refine sp_istore_n (pc := 51) (lv' := [(1, .int 0), (0, .ref v0)]) dX8_remember_51 (by decide) rfl ?_
    exact sp_sub [1, 0] rfl (w_X8_remember_52 hQ FU hf)
  · rw [if_pos c2] at hf
    refine sp_iconst (pc := 9) (v := 0) dX8_remember_9 (by decide) ?_
    refine sp_istore_n (pc := 10) (lv' := [(1, .int 0), (0, .ref v0)]) dX8_remember_10 (by decide) rfl ?_
    exact sp_sub [1, 0] rfl (w_X8_remember_11 hQ FU hf)

theorem o_X8_remember {h : HP} {v0 : Nat} {res : HP} (hf : f_X8_remember h v0 = some res) : ∃ fs, h v0 = some (.inr (8, fs)) := by
  obtain ⟨u, eu, -⟩ := ob hf
  exact kO_spec eu

theorem m_X8_remember {l : Launch} {Q : PST} {h : HP} {v0 : Nat} {sz : Nat} {res : HP} (hQ : ∀ sz', Q (.inl none) res sz') (hf : f_X8_remember h v0 = some res) : MM l M_X8_remember [.ref v0] h sz Q := by
  obtain ⟨u, eu, hf⟩ := ob hf
  exact MM_of wok_X8_remember (by decide +kernel) (Nat.le_of_ble_eq_true rfl) ((w_X8_remember_0 hQ hf))

theorem dX8_putAside_0 : decode (mB M_X8_putAside) 0 = .ok (.iconst 0, 1) := by decide +kernel
theorem dX8_putAside_1 : decode (mB M_X8_putAside) 1 = .ok (.istore_n 1, 1) := by decide +kernel
theorem dX8_putAside_2 : decode (mB M_X8_putAside) 2 = .ok (.iload_n 1, 1) := by decide +kernel
theorem dX8_putAside_3 : decode (mB M_X8_putAside) 3 = .ok (.sipush 204, 3) := by decide +kernel
theorem dX8_putAside_6 : decode (mB M_X8_putAside) 6 = .ok (.if_icmp .ge 21, 3) := by decide +kernel
theorem dX8_putAside_9 : decode (mB M_X8_putAside) 9 = .ok (.aload_n 0, 1) := by decide +kernel
theorem dX8_putAside_10 : decode (mB M_X8_putAside) 10 = .ok (.getfield 13, 3) := by decide +kernel
theorem dX8_putAside_13 : decode (mB M_X8_putAside) 13 = .ok (.iload_n 1, 1) := by decide +kernel
theorem dX8_putAside_14 : decode (mB M_X8_putAside) 14 = .ok (.aload_n 0, 1) := by decide +kernel
theorem dX8_putAside_15 : decode (mB M_X8_putAside) 15 = .ok (.getfield 7, 3) := by decide +kernel
theorem dX8_putAside_18 : decode (mB M_X8_putAside) 18 = .ok (.iload_n 1, 1) := by decide +kernel
theorem dX8_putAside_19 : decode (mB M_X8_putAside) 19 = .ok (.iaload, 1) := by decide +kernel
theorem dX8_putAside_20 : decode (mB M_X8_putAside) 20 = .ok (.iastore, 1) := by decide +kernel
theorem dX8_putAside_21 : decode (mB M_X8_putAside) 21 = .ok (.iinc 1 1, 3) := by decide +kernel
theorem dX8_putAside_24 : decode (mB M_X8_putAside) 24 = .ok (.goto (-22), 3) := by decide +kernel
theorem dX8_putAside_27 : decode (mB M_X8_putAside) 27 = .ok (.return_, 1) := by decide +kernel
def c_X8_putAside_2 (v0 : Nat) (k2 : HP → Int32 → Option (HP)) (h : HP) (v1 : Int32) : Option (HP) :=
  if 204 ≤ v1 then some h else (gR 8 2 h v0).bind fun x2 => (gR 8 1 h v0).bind fun x3 => (aI h x3 v1).bind fun x4 => (wI h x2 v1 x4).bind fun h5 => k2 h5 (v1 + 1)
def b_X8_putAside_2 (v0 : Nat) : Nat → HP → Int32 → Option (HP)
  | 0, _, _ => none
  | n + 1, h, v1 => c_X8_putAside_2 v0 (b_X8_putAside_2 v0 n) h v1
def b_X8_putAside_0 (v0 : Nat) (h : HP) : Option (HP) :=
  b_X8_putAside_2 v0 FU h 0
def f_X8_putAside (h : HP) (v0 : Nat) : Option (HP) := (kO 8 h v0).bind fun _ => b_X8_putAside_0 v0 h
theorem wc_X8_putAside_2 {l : Launch} {X : SCR} {Q : PST} {bc bs : Nat} {res : HP} (hQ : ∀ sz', Q (.inl none) res sz') {v0 : Nat} {k2 : HP → Int32 → Option (HP)} (hk2 : ∀ (h : HP) (v1 : Int32) (sz : Nat), k2 h v1 = some res → SP l X M_X8_putAside 2 [(0, .ref v0), (1, .int v1)] [] h sz bc bs Q) {h : HP} {v1 : Int32} {sz : Nat} (hf : c_X8_putAside_2 v0 k2 h v1 = some res) : SP l X M_X8_putAside 2 [(0, .ref v0), (1, .int v1)] [] h sz bc bs Q := by
  rw [c_X8_putAside_2] at hf
  refine sp_iload_n (pc := 2) dX8_putAside_2 1 rfl ?_
  refine sp_sipush (pc := 3) (v := 204) dX8_putAside_3 (by decide) ?_
  refine sp_icmp_ge (pc := 6) (tgt := 27) dX8_putAside_6 (by decide) (fun c1 => ?_) (fun c1 => ?_)
  · rw [if_pos c1] at hf
    obtain rfl := Option.some.inj hf
    exact sp_return (pc := 27) dX8_putAside_27 rfl (hQ _)
  · rw [if_neg c1] at hf
    refine sp_aload_n (pc := 9) dX8_putAside_9 0 rfl ?_
    obtain ⟨x2, ex2, hf⟩ := ob hf
    refine sp_gR (pc := 10) fl_RX8_13 dX8_putAside_10 ex2 ?_
    refine sp_iload_n (pc := 13) dX8_putAside_13 1 rfl ?_
    refine sp_aload_n (pc := 14) dX8_putAside_14 0 rfl ?_
    obtain ⟨x3, ex3, hf⟩ := ob hf
    refine sp_gR (pc := 15) fl_RX8_7 dX8_putAside_15 ex3 ?_
    refine sp_iload_n (pc := 18) dX8_putAside_18 1 rfl ?_
    obtain ⟨x4, ex4, hf⟩ := ob hf
    refine sp_aI (pc := 19) dX8_putAside_19 ex4 ?_
    obtain ⟨h5, eh5, hf⟩ := ob hf
    refine sp_wI (pc := 20) dX8_putAside_20 eh5 (fun sz => ?_)
    refine sp_iinc (pc := 21) (v := v1 + 1) (lv' := [(1, .int (v1 + 1)), (0, .ref v0)]) dX8_putAside_21 1 rfl rfl (by decide) rfl ?_
    refine sp_goto (pc := 24) (tgt := 2) dX8_putAside_24 (by decide) ?_
    exact sp_sub [1, 0] rfl (hk2 _ _ _ hf)

theorem w_X8_putAside_2 {l : Launch} {X : SCR} {Q : PST} {bc bs : Nat} {res : HP} (hQ : ∀ sz', Q (.inl none) res sz') {v0 : Nat} : ∀ (n : Nat) {h : HP} {v1 : Int32} {sz : Nat}, b_X8_putAside_2 v0 n h v1 = some res → SP l X M_X8_putAside 2 [(0, .ref v0), (1, .int v1)] [] h sz bc bs Q := by
  intro n
  induction n with
  | zero =>
    intro h v1 sz hf
    rw [b_X8_putAside_2] at hf
    cases hf
  | succ n ih =>
    intro h v1 sz hf
    rw [b_X8_putAside_2] at hf
    exact wc_X8_putAside_2 hQ (fun h v1 sz hf => ih hf) hf

theorem w_X8_putAside_0 {l : Launch} {X : SCR} {Q : PST} {bc bs : Nat} {res : HP} {h : HP} (hQ : ∀ sz', Q (.inl none) res sz') {v0 : Nat} {sz : Nat} (hf : b_X8_putAside_0 v0 h  = some res) : SP l X M_X8_putAside 0 [(0, .ref v0)] [] h sz bc bs Q := by
  rw [b_X8_putAside_0] at hf
  refine sp_iconst (pc := 0) (v := 0) dX8_putAside_0 (by decide) ?_
  refine sp_istore_n (pc := 1) (lv' := [(1, .int 0), (0, .ref v0)]) dX8_putAside_1 (by decide) rfl ?_
  exact sp_sub [1, 0] rfl (w_X8_putAside_2 hQ FU hf)

theorem o_X8_putAside {h : HP} {v0 : Nat} {res : HP} (hf : f_X8_putAside h v0 = some res) : ∃ fs, h v0 = some (.inr (8, fs)) := by
  obtain ⟨u, eu, -⟩ := ob hf
  exact kO_spec eu

theorem m_X8_putAside {l : Launch} {Q : PST} {h : HP} {v0 : Nat} {sz : Nat} {res : HP} (hQ : ∀ sz', Q (.inl none) res sz') (hf : f_X8_putAside h v0 = some res) : MM l M_X8_putAside [.ref v0] h sz Q := by
  obtain ⟨u, eu, hf⟩ := ob hf
  exact MM_of wok_X8_putAside (by decide +kernel) (Nat.le_of_ble_eq_true rfl) ((w_X8_putAside_0 hQ hf))

theorem dX8_putBack_0 : decode (mB M_X8_putBack) 0 = .ok (.iconst 0, 1) := by decide +kernel
theorem dX8_putBack_1 : decode (mB M_X8_putBack) 1 = .ok (.istore_n 1, 1) := by decide +kernel
theorem dX8_putBack_2 : decode (mB M_X8_putBack) 2 = .ok (.iload_n 1, 1) := by decide +kernel
theorem dX8_putBack_3 : decode (mB M_X8_putBack) 3 = .ok (.sipush 204, 3) := by decide +kernel
theorem dX8_putBack_6 : decode (mB M_X8_putBack) 6 = .ok (.if_icmp .ge 21, 3) := by decide +kernel
theorem dX8_putBack_9 : decode (mB M_X8_putBack) 9 = .ok (.aload_n 0, 1) := by decide +kernel
theorem dX8_putBack_10 : decode (mB M_X8_putBack) 10 = .ok (.getfield 7, 3) := by decide +kernel
theorem dX8_putBack_13 : decode (mB M_X8_putBack) 13 = .ok (.iload_n 1, 1) := by decide +kernel
theorem dX8_putBack_14 : decode (mB M_X8_putBack) 14 = .ok (.aload_n 0, 1) := by decide +kernel
theorem dX8_putBack_15 : decode (mB M_X8_putBack) 15 = .ok (.getfield 13, 3) := by decide +kernel
theorem dX8_putBack_18 : decode (mB M_X8_putBack) 18 = .ok (.iload_n 1, 1) := by decide +kernel
theorem dX8_putBack_19 : decode (mB M_X8_putBack) 19 = .ok (.iaload, 1) := by decide +kernel
theorem dX8_putBack_20 : decode (mB M_X8_putBack) 20 = .ok (.iastore, 1) := by decide +kernel
theorem dX8_putBack_21 : decode (mB M_X8_putBack) 21 = .ok (.iinc 1 1, 3) := by decide +kernel
theorem dX8_putBack_24 : decode (mB M_X8_putBack) 24 = .ok (.goto (-22), 3) := by decide +kernel
theorem dX8_putBack_27 : decode (mB M_X8_putBack) 27 = .ok (.return_, 1) := by decide +kernel
def c_X8_putBack_2 (v0 : Nat) (k2 : HP → Int32 → Option (HP)) (h : HP) (v1 : Int32) : Option (HP) :=
  if 204 ≤ v1 then some h else (gR 8 1 h v0).bind fun x2 => (gR 8 2 h v0).bind fun x3 => (aI h x3 v1).bind fun x4 => (wI h x2 v1 x4).bind fun h5 => k2 h5 (v1 + 1)
def b_X8_putBack_2 (v0 : Nat) : Nat → HP → Int32 → Option (HP)
  | 0, _, _ => none
  | n + 1, h, v1 => c_X8_putBack_2 v0 (b_X8_putBack_2 v0 n) h v1
def b_X8_putBack_0 (v0 : Nat) (h : HP) : Option (HP) :=
  b_X8_putBack_2 v0 FU h 0
def f_X8_putBack (h : HP) (v0 : Nat) : Option (HP) := (kO 8 h v0).bind fun _ => b_X8_putBack_0 v0 h
theorem wc_X8_putBack_2 {l : Launch} {X : SCR} {Q : PST} {bc bs : Nat} {res : HP} (hQ : ∀ sz', Q (.inl none) res sz') {v0 : Nat} {k2 : HP → Int32 → Option (HP)} (hk2 : ∀ (h : HP) (v1 : Int32) (sz : Nat), k2 h v1 = some res → SP l X M_X8_putBack 2 [(0, .ref v0), (1, .int v1)] [] h sz bc bs Q) {h : HP} {v1 : Int32} {sz : Nat} (hf : c_X8_putBack_2 v0 k2 h v1 = some res) : SP l X M_X8_putBack 2 [(0, .ref v0), (1, .int v1)] [] h sz bc bs Q := by
  rw [c_X8_putBack_2] at hf
  refine sp_iload_n (pc := 2) dX8_putBack_2 1 rfl ?_
  refine sp_sipush (pc := 3) (v := 204) dX8_putBack_3 (by decide) ?_
  refine sp_icmp_ge (pc := 6) (tgt := 27) dX8_putBack_6 (by decide) (fun c1 => ?_) (fun c1 => ?_)
  · rw [if_pos c1] at hf
    obtain rfl := Option.some.inj hf
    exact sp_return (pc := 27) dX8_putBack_27 rfl (hQ _)
  · rw [if_neg c1] at hf
    refine sp_aload_n (pc := 9) dX8_putBack_9 0 rfl ?_
    obtain ⟨x2, ex2, hf⟩ := ob hf
    refine sp_gR (pc := 10) fl_RX8_7 dX8_putBack_10 ex2 ?_
    refine sp_iload_n (pc := 13) dX8_putBack_13 1 rfl ?_
    refine sp_aload_n (pc := 14) dX8_putBack_14 0 rfl ?_
    obtain ⟨x3, ex3, hf⟩ := ob hf
    refine sp_gR (pc := 15) fl_RX8_13 dX8_putBack_15 ex3 ?_
    refine sp_iload_n (pc := 18) dX8_putBack_18 1 rfl ?_
    obtain ⟨x4, ex4, hf⟩ := ob hf
    refine sp_aI (pc := 19) dX8_putBack_19 ex4 ?_
    obtain ⟨h5, eh5, hf⟩ := ob hf
    refine sp_wI (pc := 20) dX8_putBack_20 eh5 (fun sz => ?_)
    refine sp_iinc (pc := 21) (v := v1 + 1) (lv' := [(1, .int (v1 + 1)), (0, .ref v0)]) dX8_putBack_21 1 rfl rfl (by decide) rfl ?_
    refine sp_goto (pc := 24) (tgt := 2) dX8_putBack_24 (by decide) ?_
    exact sp_sub [1, 0] rfl (hk2 _ _ _ hf)

theorem w_X8_putBack_2 {l : Launch} {X : SCR} {Q : PST} {bc bs : Nat} {res : HP} (hQ : ∀ sz', Q (.inl none) res sz') {v0 : Nat} : ∀ (n : Nat) {h : HP} {v1 : Int32} {sz : Nat}, b_X8_putBack_2 v0 n h v1 = some res → SP l X M_X8_putBack 2 [(0, .ref v0), (1, .int v1)] [] h sz bc bs Q := by
  intro n
  induction n with
  | zero =>
    intro h v1 sz hf
    rw [b_X8_putBack_2] at hf
    cases hf
  | succ n ih =>
    intro h v1 sz hf
    rw [b_X8_putBack_2] at hf
    exact wc_X8_putBack_2 hQ (fun h v1 sz hf => ih hf) hf

theorem w_X8_putBack_0 {l : Launch} {X : SCR} {Q : PST} {bc bs : Nat} {res : HP} {h : HP} (hQ : ∀ sz', Q (.inl none) res sz') {v0 : Nat} {sz : Nat} (hf : b_X8_putBack_0 v0 h  = some res) : SP l X M_X8_putBack 0 [(0, .ref v0)] [] h sz bc bs Q := by
  rw [b_X8_putBack_0] at hf
  refine sp_iconst (pc := 0) (v := 0) dX8_putBack_0 (by decide) ?_
  refine sp_istore_n (pc := 1) (lv' := [(1, .int 0), (0, .ref v0)]) dX8_putBack_1 (by decide) rfl ?_
  exact sp_sub [1, 0] rfl (w_X8_putBack_2 hQ FU hf)

theorem o_X8_putBack {h : HP} {v0 : Nat} {res : HP} (hf : f_X8_putBack h v0 = some res) : ∃ fs, h v0 = some (.inr (8, fs)) := by
  obtain ⟨u, eu, -⟩ := ob hf
  exact kO_spec eu

theorem m_X8_putBack {l : Launch} {Q : PST} {h : HP} {v0 : Nat} {sz : Nat} {res : HP} (hQ : ∀ sz', Q (.inl none) res sz') (hf : f_X8_putBack h v0 = some res) : MM l M_X8_putBack [.ref v0] h sz Q := by
  obtain ⟨u, eu, hf⟩ := ob hf
  exact MM_of wok_X8_putBack (by decide +kernel) (Nat.le_of_ble_eq_true rfl) ((w_X8_putBack_0 hQ hf))

theorem dX8_begin_0 : decode (mB M_X8_begin) 0 = .ok (.iconst 0, 1) := by decide +kernel
theorem dX8_begin_1 : decode (mB M_X8_begin) 1 = .ok (.istore_n 2, 1) := by decide +kernel
theorem dX8_begin_2 : decode (mB M_X8_begin) 2 = .ok (.aload_n 0, 1) := by decide +kernel
theorem dX8_begin_3 : decode (mB M_X8_begin) 3 = .ok (.getfield 7, 3) := by decide +kernel
theorem dX8_begin_6 : decode (mB M_X8_begin) 6 = .ok (.iconst 0, 1) := by decide +kernel
theorem dX8_begin_7 : decode (mB M_X8_begin) 7 = .ok (.iaload, 1) := by decide +kernel
theorem dX8_begin_8 : decode (mB M_X8_begin) 8 = .ok (.iconst 1, 1) := by decide +kernel
theorem dX8_begin_9 : decode (mB M_X8_begin) 9 = .ok (.isub, 1) := by decide +kernel
theorem dX8_begin_10 : decode (mB M_X8_begin) 10 = .ok (.istore_n 3, 1) := by decide +kernel
theorem dX8_begin_11 : decode (mB M_X8_begin) 11 = .ok (.iload_n 3, 1) := by decide +kernel
theorem dX8_begin_12 : decode (mB M_X8_begin) 12 = .ok (.iload_n 1, 1) := by decide +kernel
theorem dX8_begin_13 : decode (mB M_X8_begin) 13 = .ok (.if_icmp .le 20, 3) := by decide +kernel
theorem dX8_begin_16 : decode (mB M_X8_begin) 16 = .ok (.iload_n 2, 1) := by decide +kernel
theorem dX8_begin_17 : decode (mB M_X8_begin) 17 = .ok (.aload_n 0, 1) := by decide +kernel
theorem dX8_begin_18 : decode (mB M_X8_begin) 18 = .ok (.getfield 7, 3) := by decide +kernel
theorem dX8_begin_21 : decode (mB M_X8_begin) 21 = .ok (.iconst 1, 1) := by decide +kernel
theorem dX8_begin_22 : decode (mB M_X8_begin) 22 = .ok (.iload_n 3, 1) := by decide +kernel
theorem dX8_begin_23 : decode (mB M_X8_begin) 23 = .ok (.iadd, 1) := by decide +kernel
theorem dX8_begin_24 : decode (mB M_X8_begin) 24 = .ok (.iaload, 1) := by decide +kernel
theorem dX8_begin_25 : decode (mB M_X8_begin) 25 = .ok (.iadd, 1) := by decide +kernel
theorem dX8_begin_26 : decode (mB M_X8_begin) 26 = .ok (.istore_n 2, 1) := by decide +kernel
theorem dX8_begin_27 : decode (mB M_X8_begin) 27 = .ok (.iinc 3 (-1), 3) := by decide +kernel
theorem dX8_begin_30 : decode (mB M_X8_begin) 30 = .ok (.goto (-19), 3) := by decide +kernel
theorem dX8_begin_33 : decode (mB M_X8_begin) 33 = .ok (.iload_n 2, 1) := by decide +kernel
theorem dX8_begin_34 : decode (mB M_X8_begin) 34 = .ok (.ireturn, 1) := by decide +kernel
def c_X8_begin_11 (h : HP) (v0 : Nat) (v1 : Int32) (k11 : Int32 → Int32 → Option (Int32)) (v2 : Int32) (v3 : Int32) : Option (Int32) :=
  if v3 ≤ v1 then some (v2) else (gR 8 1 h v0).bind fun x2 => (aI h x2 (1 + v3)).bind fun x3 => k11 (v2 + x3) (v3 + (-1))
def b_X8_begin_11 (h : HP) (v0 : Nat) (v1 : Int32) : Nat → Int32 → Int32 → Option (Int32)
  | 0, _, _ => none
  | n + 1, v2, v3 => c_X8_begin_11 h v0 v1 (b_X8_begin_11 h v0 v1 n) v2 v3
def b_X8_begin_0 (h : HP) (v0 : Nat) (v1 : Int32) : Option (Int32) :=
  (gR 8 1 h v0).bind fun x1 => (aI h x1 0).bind fun x2 => b_X8_begin_11 h v0 v1 FU 0 (x2 - 1)
def f_X8_begin (h : HP) (v0 : Nat) (v1 : Int32) : Option (Int32) := (kO 8 h v0).bind fun _ => b_X8_begin_0 h v0 v1
theorem wc_X8_begin_11 {l : Launch} {X : SCR} {Q : PST} {bc bs : Nat} {res : Int32} {h : HP} (hQ : ∀ sz', Q (.inl (some (.int res))) h sz') {v0 : Nat} {v1 : Int32} {k11 : Int32 → Int32 → Option (Int32)} (hk11 : ∀ (v2 : Int32) (v3 : Int32) (sz : Nat), k11 v2 v3 = some res → SP l X M_X8_begin 11 [(0, .ref v0), (1, .int v1), (2, .int v2), (3, .int v3)] [] h sz bc bs Q) {v2 : Int32} {v3 : Int32} {sz : Nat} (hf : c_X8_begin_11 h v0 v1 k11 v2 v3 = some res) : SP l X M_X8_begin 11 [(0, .ref v0), (1, .int v1), (2, .int v2), (3, .int v3)] [] h sz bc bs Q := by
  rw [c_X8_begin_11] at hf
  refine sp_iload_n (pc := 11) dX8_begin_11 3 rfl ?_
  refine sp_iload_n (pc := 12) dX8_begin_12 1 rfl ?_
  refine sp_icmp_le (pc := 13) (tgt := 33) dX8_begin_13 (by decide) (fun c1 => ?_) (fun c1 => ?_)
  · rw [if_pos c1] at hf
    refine sp_iload_n (pc := 33) dX8_begin_33 2 rfl ?_
    obtain rfl := Option.some.inj hf
    exact sp_ireturn (pc := 34) dX8_begin_34 rfl rfl (hQ _)
  · rw [if_neg c1] at hf
    refine sp_iload_n (pc := 16) dX8_begin_16 2 rfl ?_
    refine sp_aload_n (pc := 17) dX8_begin_17 0 rfl ?_
    obtain ⟨x2, ex2, hf⟩ := ob hf
    refine sp_gR (pc := 18) fl_RX8_7 dX8_begin_18 ex2 ?_
    refine sp_iconst (pc := 21) (v := 1) dX8_begin_21 (by decide) ?_
    refine sp_iload_n (pc := 22) dX8_begin_22 3 rfl ?_
    refine sp_iadd (pc := 23) dX8_begin_23 ?_
    obtain ⟨x3, ex3, hf⟩ := ob hf
    refine sp_aI (pc := 24) dX8_begin_24 ex3 ?_
    refine sp_iadd (pc := 25) dX8_begin_25 ?_
    refine sp_istore_n (pc := 26) (lv' := [(2, .int (v2 + x3)), (0, .ref v0), (1, .int v1), (3, .int v3)]) dX8_begin_26 (by decide) rfl ?_
    refine sp_iinc (pc := 27) (v := v3 + (-1)) (lv' := [(3, .int (v3 + (-1))), (2, .int (v2 + x3)), (0, .ref v0), (1, .int v1)]) dX8_begin_27 3 rfl rfl (by decide) rfl ?_
    refine sp_goto (pc := 30) (tgt := 11) dX8_begin_30 (by decide) ?_
    exact sp_sub [2, 3, 1, 0] rfl (hk11 _ _ _ hf)

theorem w_X8_begin_11 {l : Launch} {X : SCR} {Q : PST} {bc bs : Nat} {res : Int32} {h : HP} (hQ : ∀ sz', Q (.inl (some (.int res))) h sz') {v0 : Nat} {v1 : Int32} : ∀ (n : Nat) {v2 : Int32} {v3 : Int32} {sz : Nat}, b_X8_begin_11 h v0 v1 n v2 v3 = some res → SP l X M_X8_begin 11 [(0, .ref v0), (1, .int v1), (2, .int v2), (3, .int v3)] [] h sz bc bs Q := by
  intro n
  induction n with
  | zero =>
    intro v2 v3 sz hf
    rw [b_X8_begin_11] at hf
    cases hf
  | succ n ih =>
    intro v2 v3 sz hf
    rw [b_X8_begin_11] at hf
    exact wc_X8_begin_11 hQ (fun v2 v3 sz hf => ih hf) hf

theorem w_X8_begin_0 {l : Launch} {X : SCR} {Q : PST} {bc bs : Nat} {res : Int32} {h : HP} (hQ : ∀ sz', Q (.inl (some (.int res))) h sz') {v0 : Nat} {v1 : Int32} {sz : Nat} (hf : b_X8_begin_0 h v0 v1  = some res) : SP l X M_X8_begin 0 [(0, .ref v0), (1, .int v1)] [] h sz bc bs Q := by
  rw [b_X8_begin_0] at hf
  refine sp_iconst (pc := 0) (v := 0) dX8_begin_0 (by decide) ?_
  refine sp_istore_n (pc := 1) (lv' := [(2, .int 0), (0, .ref v0), (1, .int v1)]) dX8_begin_1 (by decide) rfl ?_
  refine sp_aload_n (pc := 2) dX8_begin_2 1 rfl ?_
  obtain ⟨x1, ex1, hf⟩ := ob hf
  refine sp_gR (pc := 3) fl_RX8_7 dX8_begin_3 ex1 ?_
  refine sp_iconst (pc := 6) (v := 0) dX8_begin_6 (by decide) ?_
  obtain ⟨x2, ex2, hf⟩ := ob hf
  refine sp_aI (pc := 7) dX8_begin_7 ex2 ?_
  refine sp_iconst (pc := 8) (v := 1) dX8_begin_8 (by decide) ?_
  refine sp_isub (pc := 9) dX8_begin_9 ?_
  refine sp_istore_n (pc := 10) (lv' := [(3, .int (x2 - 1)), (2, .int 0), (0, .ref v0), (1, .int v1)]) dX8_begin_10 (by decide) rfl ?_
  exact sp_sub [2, 3, 1, 0] rfl (w_X8_begin_11 hQ FU hf)

theorem o_X8_begin {h : HP} {v0 : Nat} {v1 : Int32} {res : Int32} (hf : f_X8_begin h v0 v1 = some res) : ∃ fs, h v0 = some (.inr (8, fs)) := by
  obtain ⟨u, eu, -⟩ := ob hf
  exact kO_spec eu

theorem m_X8_begin {l : Launch} {Q : PST} {h : HP} {v0 : Nat} {v1 : Int32} {sz : Nat} {res : Int32} (hQ : ∀ sz', Q (.inl (some (.int res))) h sz') (hf : f_X8_begin h v0 v1 = some res) : MM l M_X8_begin [.ref v0, .int v1] h sz Q := by
  obtain ⟨u, eu, hf⟩ := ob hf
  exact MM_of wok_X8_begin (by decide +kernel) (Nat.le_of_ble_eq_true rfl) ((w_X8_begin_0 hQ hf))

theorem dX8_manyIn_0 : decode (mB M_X8_manyIn) 0 = .ok (.iload_n 1, 1) := by decide +kernel
theorem dX8_manyIn_1 : decode (mB M_X8_manyIn) 1 = .ok (.iconst (-1), 1) := by decide +kernel
theorem dX8_manyIn_2 : decode (mB M_X8_manyIn) 2 = .ok (.if_icmp .ne 13, 3) := by decide +kernel
theorem dX8_manyIn_5 : decode (mB M_X8_manyIn) 5 = .ok (.aload_n 0, 1) := by decide +kernel
theorem dX8_manyIn_6 : decode (mB M_X8_manyIn) 6 = .ok (.getfield 7, 3) := by decide +kernel
theorem dX8_manyIn_9 : decode (mB M_X8_manyIn) 9 = .ok (.bipush 6, 2) := by decide +kernel
theorem dX8_manyIn_11 : decode (mB M_X8_manyIn) 11 = .ok (.iaload, 1) := by decide +kernel
theorem dX8_manyIn_12 : decode (mB M_X8_manyIn) 12 = .ok (.goto 11, 3) := by decide +kernel
theorem dX8_manyIn_15 : decode (mB M_X8_manyIn) 15 = .ok (.aload_n 0, 1) := by decide +kernel
theorem dX8_manyIn_16 : decode (mB M_X8_manyIn) 16 = .ok (.getfield 7, 3) := by decide +kernel
theorem dX8_manyIn_19 : decode (mB M_X8_manyIn) 19 = .ok (.iconst 1, 1) := by decide +kernel
theorem dX8_manyIn_20 : decode (mB M_X8_manyIn) 20 = .ok (.iload_n 1, 1) := by decide +kernel
theorem dX8_manyIn_21 : decode (mB M_X8_manyIn) 21 = .ok (.iadd, 1) := by decide +kernel
theorem dX8_manyIn_22 : decode (mB M_X8_manyIn) 22 = .ok (.iaload, 1) := by decide +kernel
theorem dX8_manyIn_23 : decode (mB M_X8_manyIn) 23 = .ok (.ireturn, 1) := by decide +kernel
def b_X8_manyIn_0 (h : HP) (v0 : Nat) (v1 : Int32) : Option (Int32) :=
  if v1 = (-1) then (gR 8 1 h v0).bind fun x4 => (aI h x4 6).bind fun x5 => some (x5) else (gR 8 1 h v0).bind fun x2 => (aI h x2 (1 + v1)).bind fun x3 => some (x3)
def f_X8_manyIn (h : HP) (v0 : Nat) (v1 : Int32) : Option (Int32) := (kO 8 h v0).bind fun _ => b_X8_manyIn_0 h v0 v1
theorem w_X8_manyIn_0 {l : Launch} {X : SCR} {Q : PST} {bc bs : Nat} {res : Int32} {h : HP} (hQ : ∀ sz', Q (.inl (some (.int res))) h sz') {v0 : Nat} {v1 : Int32} {sz : Nat} (hf : b_X8_manyIn_0 h v0 v1  = some res) : SP l X M_X8_manyIn 0 [(0, .ref v0), (1, .int v1)] [] h sz bc bs Q := by
  rw [b_X8_manyIn_0] at hf
  refine sp_iload_n (pc := 0) dX8_manyIn_0 1 rfl ?_
  refine sp_iconst (pc := 1) (v := (-1)) dX8_manyIn_1 (by decide) ?_
  refine sp_icmp_ne (pc := 2) (tgt := 15) dX8_manyIn_2 (by decide) (fun c1 => ?_) (fun c1 => ?_)
  · rw [if_neg c1] at hf
    refine sp_aload_n (pc := 15) dX8_manyIn_15 0 rfl ?_
    obtain ⟨x2, ex2, hf⟩ := ob hf
    refine sp_gR (pc := 16) fl_RX8_7 dX8_manyIn_16 ex2 ?_
    refine sp_iconst (pc := 19) (v := 1) dX8_manyIn_19 (by decide) ?_
    refine sp_iload_n (pc := 20) dX8_manyIn_20 1 rfl ?_
    refine sp_iadd (pc := 21) dX8_manyIn_21 ?_
    obtain ⟨x3, ex3, hf⟩ := ob hf
    refine sp_aI (pc := 22) dX8_manyIn_22 ex3 ?_
    obtain rfl := Option.some.inj hf
    exact sp_ireturn (pc := 23) dX8_manyIn_23 rfl rfl (hQ _)
  · rw [if_pos c1] at hf
    refine sp_aload_n (pc := 5) dX8_manyIn_5 0 rfl ?_
    obtain ⟨x4, ex4, hf⟩ := ob hf
    refine sp_gR (pc := 6) fl_RX8_7 dX8_manyIn_6 ex4 ?_
    refine sp_bipush (pc := 9) (v := 6) dX8_manyIn_9 (by decide) ?_
    obtain ⟨x5, ex5, hf⟩ := ob hf
    refine sp_aI (pc := 11) dX8_manyIn_11 ex5 ?_
    refine sp_goto (pc := 12) (tgt := 23) dX8_manyIn_12 (by decide) ?_
    obtain rfl := Option.some.inj hf
    exact sp_ireturn (pc := 23) dX8_manyIn_23 rfl rfl (hQ _)

theorem o_X8_manyIn {h : HP} {v0 : Nat} {v1 : Int32} {res : Int32} (hf : f_X8_manyIn h v0 v1 = some res) : ∃ fs, h v0 = some (.inr (8, fs)) := by
  obtain ⟨u, eu, -⟩ := ob hf
  exact kO_spec eu

theorem m_X8_manyIn {l : Launch} {Q : PST} {h : HP} {v0 : Nat} {v1 : Int32} {sz : Nat} {res : Int32} (hQ : ∀ sz', Q (.inl (some (.int res))) h sz') (hf : f_X8_manyIn h v0 v1 = some res) : MM l M_X8_manyIn [.ref v0, .int v1] h sz Q := by
  obtain ⟨u, eu, hf⟩ := ob hf
  exact MM_of wok_X8_manyIn (by decide +kernel) (Nat.le_of_ble_eq_true rfl) ((w_X8_manyIn_0 hQ hf))

theorem dX8_all_0 : decode (mB M_X8_all) 0 = .ok (.aload_n 0, 1) := by decide +kernel
theorem dX8_all_1 : decode (mB M_X8_all) 1 = .ok (.iconst (-1), 1) := by decide +kernel
theorem dX8_all_2 : decode (mB M_X8_all) 2 = .ok (.invokevirtual 46, 3) := by decide +kernel
theorem dX8_all_5 : decode (mB M_X8_all) 5 = .ok (.aload_n 0, 1) := by decide +kernel
theorem dX8_all_6 : decode (mB M_X8_all) 6 = .ok (.getfield 7, 3) := by decide +kernel
theorem dX8_all_9 : decode (mB M_X8_all) 9 = .ok (.bipush 6, 2) := by decide +kernel
theorem dX8_all_11 : decode (mB M_X8_all) 11 = .ok (.iaload, 1) := by decide +kernel
theorem dX8_all_12 : decode (mB M_X8_all) 12 = .ok (.iadd, 1) := by decide +kernel
theorem dX8_all_13 : decode (mB M_X8_all) 13 = .ok (.ireturn, 1) := by decide +kernel
def b_X8_all_0 (h : HP) (v0 : Nat) : Option (Int32) :=
  (f_X8_begin h v0 (-1)).bind fun y1 => (gR 8 1 h v0).bind fun x2 => (aI h x2 6).bind fun x3 => some (y1 + x3)
def f_X8_all (h : HP) (v0 : Nat) : Option (Int32) := (kO 8 h v0).bind fun _ => b_X8_all_0 h v0
theorem w_X8_all_0 {l : Launch} {X : SCR} {Q : PST} {bc bs : Nat} {res : Int32} {h : HP} (hQ : ∀ sz', Q (.inl (some (.int res))) h sz') {v0 : Nat} {sz : Nat} (hf : b_X8_all_0 h v0  = some res) : SP l X M_X8_all 0 [(0, .ref v0)] [] h sz bc bs Q := by
  rw [b_X8_all_0] at hf
  refine sp_aload_n (pc := 0) dX8_all_0 0 rfl ?_
  refine sp_iconst (pc := 1) (v := (-1)) dX8_all_1 (by decide) ?_
  obtain ⟨y1, ey1, hf⟩ := ob hf
  obtain ⟨fsy1, hoy1⟩ := o_X8_begin ey1
  refine sp_callVi (pc := 2) (z := M_X8_begin) (As := [.int (-1)]) (b := v0) (bc2 := bc) (bs2 := bs) (m_X8_begin (Q := _) (fun sz => ⟨y1, rfl, ?_⟩) ey1) rfl dX8_all_2 hoy1 rfl rfl ck_X8_all_46 (Nat.le_of_ble_eq_true rfl) rfl rfl rfl
  refine sp_aload_n (pc := 5) dX8_all_5 0 rfl ?_
  obtain ⟨x2, ex2, hf⟩ := ob hf
  refine sp_gR (pc := 6) fl_RX8_7 dX8_all_6 ex2 ?_
  refine sp_bipush (pc := 9) (v := 6) dX8_all_9 (by decide) ?_
  obtain ⟨x3, ex3, hf⟩ := ob hf
  refine sp_aI (pc := 11) dX8_all_11 ex3 ?_
  refine sp_iadd (pc := 12) dX8_all_12 ?_
  obtain rfl := Option.some.inj hf
  exact sp_ireturn (pc := 13) dX8_all_13 rfl rfl (hQ _)

theorem o_X8_all {h : HP} {v0 : Nat} {res : Int32} (hf : f_X8_all h v0 = some res) : ∃ fs, h v0 = some (.inr (8, fs)) := by
  obtain ⟨u, eu, -⟩ := ob hf
  exact kO_spec eu

theorem m_X8_all {l : Launch} {Q : PST} {h : HP} {v0 : Nat} {sz : Nat} {res : Int32} (hQ : ∀ sz', Q (.inl (some (.int res))) h sz') (hf : f_X8_all h v0 = some res) : MM l M_X8_all [.ref v0] h sz Q := by
  obtain ⟨u, eu, hf⟩ := ob hf
  exact MM_of wok_X8_all (by decide +kernel) (Nat.le_of_ble_eq_true rfl) ((w_X8_all_0 hQ hf))

theorem dX8_concerns_0 : decode (mB M_X8_concerns) 0 = .ok (.iload_n 2, 1) := by decide +kernel
theorem dX8_concerns_1 : decode (mB M_X8_concerns) 1 = .ok (.aload_n 0, 1) := by decide +kernel
theorem dX8_concerns_2 : decode (mB M_X8_concerns) 2 = .ok (.getfield 7, 3) := by decide +kernel
theorem dX8_concerns_5 : decode (mB M_X8_concerns) 5 = .ok (.iload_n 1, 1) := by decide +kernel
theorem dX8_concerns_6 : decode (mB M_X8_concerns) 6 = .ok (.iconst 1, 1) := by decide +kernel
theorem dX8_concerns_7 : decode (mB M_X8_concerns) 7 = .ok (.invokestatic 50, 3) := by decide +kernel
theorem dX8_concerns_10 : decode (mB M_X8_concerns) 10 = .ok (.iaload, 1) := by decide +kernel
theorem dX8_concerns_11 : decode (mB M_X8_concerns) 11 = .ok (.aload_n 0, 1) := by decide +kernel
theorem dX8_concerns_12 : decode (mB M_X8_concerns) 12 = .ok (.getfield 7, 3) := by decide +kernel
theorem dX8_concerns_15 : decode (mB M_X8_concerns) 15 = .ok (.iload_n 1, 1) := by decide +kernel
theorem dX8_concerns_16 : decode (mB M_X8_concerns) 16 = .ok (.iconst 2, 1) := by decide +kernel
theorem dX8_concerns_17 : decode (mB M_X8_concerns) 17 = .ok (.invokestatic 50, 3) := by decide +kernel
theorem dX8_concerns_20 : decode (mB M_X8_concerns) 20 = .ok (.iaload, 1) := by decide +kernel
theorem dX8_concerns_21 : decode (mB M_X8_concerns) 21 = .ok (.invokestatic 39, 3) := by decide +kernel
theorem dX8_concerns_24 : decode (mB M_X8_concerns) 24 = .ok (.ireturn, 1) := by decide +kernel
def b_X8_concerns_0 (h : HP) (v0 : Nat) (v1 : Int32) (v2 : Int32) : Option (Int32) :=
  (gR 8 1 h v0).bind fun x1 => (f_X8_of h v1 1).bind fun y2 => (aI h x1 y2).bind fun x3 => (gR 8 1 h v0).bind fun x4 => (f_X8_of h v1 2).bind fun y5 => (aI h x4 y5).bind fun x6 => (f_X8_in h v2 x3 x6).bind fun y7 => bz y7
def f_X8_concerns (h : HP) (v0 : Nat) (v1 : Int32) (v2 : Int32) : Option (Int32) := (kO 8 h v0).bind fun _ => b_X8_concerns_0 h v0 v1 v2
theorem w_X8_concerns_0 {l : Launch} {X : SCR} {Q : PST} {bc bs : Nat} {res : Int32} {h : HP} (hQ : ∀ sz', Q (.inl (some (.int res))) h sz') {v0 : Nat} {v1 : Int32} {v2 : Int32} {sz : Nat} (hf : b_X8_concerns_0 h v0 v1 v2  = some res) : SP l X M_X8_concerns 0 [(0, .ref v0), (1, .int v1), (2, .int v2)] [] h sz bc bs Q := by
  rw [b_X8_concerns_0] at hf
  refine sp_iload_n (pc := 0) dX8_concerns_0 2 rfl ?_
  refine sp_aload_n (pc := 1) dX8_concerns_1 0 rfl ?_
  obtain ⟨x1, ex1, hf⟩ := ob hf
  refine sp_gR (pc := 2) fl_RX8_7 dX8_concerns_2 ex1 ?_
  refine sp_iload_n (pc := 5) dX8_concerns_5 1 rfl ?_
  refine sp_iconst (pc := 6) (v := 1) dX8_concerns_6 (by decide) ?_
  obtain ⟨y2, ey2, hf⟩ := ob hf
  refine sp_callSi (pc := 7) (z := M_X8_of) (As := [.int v1, .int 1]) (bc2 := bc) (bs2 := bs) (m_X8_of (Q := _) (fun sz => ⟨y2, rfl, ?_⟩) ey2) rfl dX8_concerns_7 rfl ck_X8_concerns_50 (Nat.le_of_ble_eq_true rfl) rfl rfl rfl
  obtain ⟨x3, ex3, hf⟩ := ob hf
  refine sp_aI (pc := 10) dX8_concerns_10 ex3 ?_
  refine sp_aload_n (pc := 11) dX8_concerns_11 0 rfl ?_
  obtain ⟨x4, ex4, hf⟩ := ob hf
  refine sp_gR (pc := 12) fl_RX8_7 dX8_concerns_12 ex4 ?_
  refine sp_iload_n (pc := 15) dX8_concerns_15 1 rfl ?_
  refine sp_iconst (pc := 16) (v := 2) dX8_concerns_16 (by decide) ?_
  obtain ⟨y5, ey5, hf⟩ := ob hf
  refine sp_callSi (pc := 17) (z := M_X8_of) (As := [.int v1, .int 2]) (bc2 := bc) (bs2 := bs) (m_X8_of (Q := _) (fun sz => ⟨y5, rfl, ?_⟩) ey5) rfl dX8_concerns_17 rfl ck_X8_concerns_50 (Nat.le_of_ble_eq_true rfl) rfl rfl rfl
  obtain ⟨x6, ex6, hf⟩ := ob hf
  refine sp_aI (pc := 20) dX8_concerns_20 ex6 ?_
  obtain ⟨y7, ey7, hf⟩ := ob hf
  refine sp_callSi (pc := 21) (z := M_X8_in) (As := [.int v2, .int x3, .int x6]) (bc2 := bc) (bs2 := bs) (m_X8_in (Q := _) (fun sz => ⟨y7, rfl, ?_⟩) ey7) rfl dX8_concerns_21 rfl ck_X8_concerns_39 (Nat.le_of_ble_eq_true rfl) rfl rfl rfl
  exact sp_iretZ (pc := 24) dX8_concerns_24 rfl hf (hQ _)

theorem o_X8_concerns {h : HP} {v0 : Nat} {v1 : Int32} {v2 : Int32} {res : Int32} (hf : f_X8_concerns h v0 v1 v2 = some res) : ∃ fs, h v0 = some (.inr (8, fs)) := by
  obtain ⟨u, eu, -⟩ := ob hf
  exact kO_spec eu

theorem m_X8_concerns {l : Launch} {Q : PST} {h : HP} {v0 : Nat} {v1 : Int32} {v2 : Int32} {sz : Nat} {res : Int32} (hQ : ∀ sz', Q (.inl (some (.int res))) h sz') (hf : f_X8_concerns h v0 v1 v2 = some res) : MM l M_X8_concerns [.ref v0, .int v1, .int v2] h sz Q := by
  obtain ⟨u, eu, hf⟩ := ob hf
  exact MM_of wok_X8_concerns (by decide +kernel) (Nat.le_of_ble_eq_true rfl) ((w_X8_concerns_0 hQ hf))

theorem dX8_isEntry_0 : decode (mB M_X8_isEntry) 0 = .ok (.aload_n 0, 1) := by decide +kernel
theorem dX8_isEntry_1 : decode (mB M_X8_isEntry) 1 = .ok (.getfield 7, 3) := by decide +kernel
theorem dX8_isEntry_4 : decode (mB M_X8_isEntry) 4 = .ok (.iload_n 1, 1) := by decide +kernel
theorem dX8_isEntry_5 : decode (mB M_X8_isEntry) 5 = .ok (.iconst 3, 1) := by decide +kernel
theorem dX8_isEntry_6 : decode (mB M_X8_isEntry) 6 = .ok (.invokestatic 50, 3) := by decide +kernel
theorem dX8_isEntry_9 : decode (mB M_X8_isEntry) 9 = .ok (.iaload, 1) := by decide +kernel
theorem dX8_isEntry_10 : decode (mB M_X8_isEntry) 10 = .ok (.ifCond .le 7, 3) := by decide +kernel
theorem dX8_isEntry_13 : decode (mB M_X8_isEntry) 13 = .ok (.iconst 1, 1) := by decide +kernel
theorem dX8_isEntry_14 : decode (mB M_X8_isEntry) 14 = .ok (.goto 4, 3) := by decide +kernel
theorem dX8_isEntry_17 : decode (mB M_X8_isEntry) 17 = .ok (.iconst 0, 1) := by decide +kernel
theorem dX8_isEntry_18 : decode (mB M_X8_isEntry) 18 = .ok (.ireturn, 1) := by decide +kernel
def b_X8_isEntry_0 (h : HP) (v0 : Nat) (v1 : Int32) : Option (Int32) :=
  (gR 8 1 h v0).bind fun x1 => (f_X8_of h v1 3).bind fun y2 => (aI h x1 y2).bind fun x3 => if x3 ≤ 0 then some (0) else some (1)
def f_X8_isEntry (h : HP) (v0 : Nat) (v1 : Int32) : Option (Int32) := (kO 8 h v0).bind fun _ => b_X8_isEntry_0 h v0 v1
theorem w_X8_isEntry_0 {l : Launch} {X : SCR} {Q : PST} {bc bs : Nat} {res : Int32} {h : HP} (hQ : ∀ sz', Q (.inl (some (.int res))) h sz') {v0 : Nat} {v1 : Int32} {sz : Nat} (hf : b_X8_isEntry_0 h v0 v1  = some res) : SP l X M_X8_isEntry 0 [(0, .ref v0), (1, .int v1)] [] h sz bc bs Q := by
  rw [b_X8_isEntry_0] at hf
  refine sp_aload_n (pc := 0) dX8_isEntry_0 0 rfl ?_
  obtain ⟨x1, ex1, hf⟩ := ob hf
  refine sp_gR (pc := 1) fl_RX8_7 dX8_isEntry_1 ex1 ?_
  refine sp_iload_n (pc := 4) dX8_isEntry_4 1 rfl ?_
  refine sp_iconst (pc := 5) (v := 3) dX8_isEntry_5 (by decide) ?_
  obtain ⟨y2, ey2, hf⟩ := ob hf
  refine sp_callSi (pc := 6) (z := M_X8_of) (As := [.int v1, .int 3]) (bc2 := bc) (bs2 := bs) (m_X8_of (Q := _) (fun sz => ⟨y2, rfl, ?_⟩) ey2) rfl dX8_isEntry_6 rfl ck_X8_isEntry_50 (Nat.le_of_ble_eq_true rfl) rfl rfl rfl
  obtain ⟨x3, ex3, hf⟩ := ob hf
  refine sp_aI (pc := 9) dX8_isEntry_9 ex3 ?_
  refine sp_if_le (pc := 10) (tgt := 17) dX8_isEntry_10 (by decide) (fun c4 => ?_) (fun c4 => ?_)
  · rw [if_pos c4] at hf
    refine sp_iconst (pc := 17) (v := 0) dX8_isEntry_17 (by decide) ?_
    obtain rfl := Option.some.inj hf
    exact sp_ireturn (pc := 18) dX8_isEntry_18 rfl rfl (hQ _)
  · rw [if_neg c4] at hf
    refine sp_iconst (pc := 13) (v := 1) dX8_isEntry_13 (by decide) ?_
    refine sp_goto (pc := 14) (tgt := 18) dX8_isEntry_14 (by decide) ?_
    obtain rfl := Option.some.inj hf
    exact sp_ireturn (pc := 18) dX8_isEntry_18 rfl rfl (hQ _)

theorem o_X8_isEntry {h : HP} {v0 : Nat} {v1 : Int32} {res : Int32} (hf : f_X8_isEntry h v0 v1 = some res) : ∃ fs, h v0 = some (.inr (8, fs)) := by
  obtain ⟨u, eu, -⟩ := ob hf
  exact kO_spec eu

theorem m_X8_isEntry {l : Launch} {Q : PST} {h : HP} {v0 : Nat} {v1 : Int32} {sz : Nat} {res : Int32} (hQ : ∀ sz', Q (.inl (some (.int res))) h sz') (hf : f_X8_isEntry h v0 v1 = some res) : MM l M_X8_isEntry [.ref v0, .int v1] h sz Q := by
  obtain ⟨u, eu, hf⟩ := ob hf
  exact MM_of wok_X8_isEntry (by decide +kernel) (Nat.le_of_ble_eq_true rfl) ((w_X8_isEntry_0 hQ hf))

theorem dX8_newest_0 : decode (mB M_X8_newest) 0 = .ok (.iconst (-1), 1) := by decide +kernel
theorem dX8_newest_1 : decode (mB M_X8_newest) 1 = .ok (.istore_n 3, 1) := by decide +kernel
theorem dX8_newest_2 : decode (mB M_X8_newest) 2 = .ok (.iconst 0, 1) := by decide +kernel
theorem dX8_newest_3 : decode (mB M_X8_newest) 3 = .ok (.istore 4, 2) := by decide +kernel
theorem dX8_newest_5 : decode (mB M_X8_newest) 5 = .ok (.iload 4, 2) := by decide +kernel
theorem dX8_newest_7 : decode (mB M_X8_newest) 7 = .ok (.aload_n 0, 1) := by decide +kernel
theorem dX8_newest_8 : decode (mB M_X8_newest) 8 = .ok (.invokevirtual 54, 3) := by decide +kernel
theorem dX8_newest_11 : decode (mB M_X8_newest) 11 = .ok (.if_icmp .ge 82, 3) := by decide +kernel
theorem dX8_newest_14 : decode (mB M_X8_newest) 14 = .ok (.aload_n 0, 1) := by decide +kernel
theorem dX8_newest_15 : decode (mB M_X8_newest) 15 = .ok (.iload 4, 2) := by decide +kernel
theorem dX8_newest_17 : decode (mB M_X8_newest) 17 = .ok (.iload_n 1, 1) := by decide +kernel
theorem dX8_newest_18 : decode (mB M_X8_newest) 18 = .ok (.invokevirtual 58, 3) := by decide +kernel
theorem dX8_newest_21 : decode (mB M_X8_newest) 21 = .ok (.ifCond .eq 22, 3) := by decide +kernel
theorem dX8_newest_24 : decode (mB M_X8_newest) 24 = .ok (.aload_n 0, 1) := by decide +kernel
theorem dX8_newest_25 : decode (mB M_X8_newest) 25 = .ok (.getfield 7, 3) := by decide +kernel
theorem dX8_newest_28 : decode (mB M_X8_newest) 28 = .ok (.iload 4, 2) := by decide +kernel
theorem dX8_newest_30 : decode (mB M_X8_newest) 30 = .ok (.iconst 0, 1) := by decide +kernel
theorem dX8_newest_31 : decode (mB M_X8_newest) 31 = .ok (.invokestatic 50, 3) := by decide +kernel
theorem dX8_newest_34 : decode (mB M_X8_newest) 34 = .ok (.iaload, 1) := by decide +kernel
theorem dX8_newest_35 : decode (mB M_X8_newest) 35 = .ok (.iload_n 2, 1) := by decide +kernel
theorem dX8_newest_36 : decode (mB M_X8_newest) 36 = .ok (.if_icmp .gt 7, 3) := by decide +kernel
theorem dX8_newest_39 : decode (mB M_X8_newest) 39 = .ok (.iconst 1, 1) := by decide +kernel
theorem dX8_newest_40 : decode (mB M_X8_newest) 40 = .ok (.goto 4, 3) := by decide +kernel
theorem dX8_newest_43 : decode (mB M_X8_newest) 43 = .ok (.iconst 0, 1) := by decide +kernel
theorem dX8_newest_44 : decode (mB M_X8_newest) 44 = .ok (.istore 5, 2) := by decide +kernel
theorem dX8_newest_46 : decode (mB M_X8_newest) 46 = .ok (.iload 5, 2) := by decide +kernel
theorem dX8_newest_48 : decode (mB M_X8_newest) 48 = .ok (.ifCond .eq 37, 3) := by decide +kernel
theorem dX8_newest_51 : decode (mB M_X8_newest) 51 = .ok (.iload_n 3, 1) := by decide +kernel
theorem dX8_newest_52 : decode (mB M_X8_newest) 52 = .ok (.iconst (-1), 1) := by decide +kernel
theorem dX8_newest_53 : decode (mB M_X8_newest) 53 = .ok (.if_icmp .eq 27, 3) := by decide +kernel
theorem dX8_newest_56 : decode (mB M_X8_newest) 56 = .ok (.aload_n 0, 1) := by decide +kernel
theorem dX8_newest_57 : decode (mB M_X8_newest) 57 = .ok (.getfield 7, 3) := by decide +kernel
theorem dX8_newest_60 : decode (mB M_X8_newest) 60 = .ok (.iload 4, 2) := by decide +kernel
theorem dX8_newest_62 : decode (mB M_X8_newest) 62 = .ok (.iconst 0, 1) := by decide +kernel
theorem dX8_newest_63 : decode (mB M_X8_newest) 63 = .ok (.invokestatic 50, 3) := by decide +kernel
theorem dX8_newest_66 : decode (mB M_X8_newest) 66 = .ok (.iaload, 1) := by decide +kernel
theorem dX8_newest_67 : decode (mB M_X8_newest) 67 = .ok (.aload_n 0, 1) := by decide +kernel
theorem dX8_newest_68 : decode (mB M_X8_newest) 68 = .ok (.getfield 7, 3) := by decide +kernel
theorem dX8_newest_71 : decode (mB M_X8_newest) 71 = .ok (.iload_n 3, 1) := by decide +kernel
theorem dX8_newest_72 : decode (mB M_X8_newest) 72 = .ok (.iconst 0, 1) := by decide +kernel
theorem dX8_newest_73 : decode (mB M_X8_newest) 73 = .ok (.invokestatic 50, 3) := by decide +kernel
theorem dX8_newest_76 : decode (mB M_X8_newest) 76 = .ok (.iaload, 1) := by decide +kernel
theorem dX8_newest_77 : decode (mB M_X8_newest) 77 = .ok (.if_icmp .le 8, 3) := by decide +kernel
theorem dX8_newest_80 : decode (mB M_X8_newest) 80 = .ok (.iload 4, 2) := by decide +kernel
theorem dX8_newest_82 : decode (mB M_X8_newest) 82 = .ok (.goto 4, 3) := by decide +kernel
theorem dX8_newest_85 : decode (mB M_X8_newest) 85 = .ok (.iload_n 3, 1) := by decide +kernel
theorem dX8_newest_86 : decode (mB M_X8_newest) 86 = .ok (.istore_n 3, 1) := by decide +kernel
theorem dX8_newest_87 : decode (mB M_X8_newest) 87 = .ok (.iinc 4 1, 3) := by decide +kernel
theorem dX8_newest_90 : decode (mB M_X8_newest) 90 = .ok (.goto (-85), 3) := by decide +kernel
theorem dX8_newest_93 : decode (mB M_X8_newest) 93 = .ok (.iload_n 3, 1) := by decide +kernel
theorem dX8_newest_94 : decode (mB M_X8_newest) 94 = .ok (.ireturn, 1) := by decide +kernel
def b_X8_newest_44 (h : HP) (v0 : Nat) (v1 : Int32) (v2 : Int32) (k5 : Int32 → Int32 → Option (Int32)) (v3 : Int32) (v4 : Int32) (s0 : Int32) : Option (Int32) :=
  if s0 = 0 then k5 v3 (v4 + 1) else if v3 = (-1) then k5 v4 (v4 + 1) else (gR 8 1 h v0).bind fun x3 => (f_X8_of h v4 0).bind fun y4 => (aI h x3 y4).bind fun x5 => (gR 8 1 h v0).bind fun x6 => (f_X8_of h v3 0).bind fun y7 => (aI h x6 y7).bind fun x8 => if x5 ≤ x8 then k5 v3 (v4 + 1) else k5 v4 (v4 + 1)
def c_X8_newest_5 (h : HP) (v0 : Nat) (v1 : Int32) (v2 : Int32) (k5 : Int32 → Int32 → Option (Int32)) (v3 : Int32) (v4 : Int32) : Option (Int32) :=
  (f_X8_all h v0).bind fun y1 => if y1 ≤ v4 then some (v3) else (f_X8_concerns h v0 v4 v1).bind fun y3 => if y3 = 0 then b_X8_newest_44 h v0 v1 v2 k5 v3 v4 0 else (gR 8 1 h v0).bind fun x5 => (f_X8_of h v4 0).bind fun y6 => (aI h x5 y6).bind fun x7 => if v2 < x7 then b_X8_newest_44 h v0 v1 v2 k5 v3 v4 0 else b_X8_newest_44 h v0 v1 v2 k5 v3 v4 1
def b_X8_newest_5 (h : HP) (v0 : Nat) (v1 : Int32) (v2 : Int32) : Nat → Int32 → Int32 → Option (Int32)
  | 0, _, _ => none
  | n + 1, v3, v4 => c_X8_newest_5 h v0 v1 v2 (b_X8_newest_5 h v0 v1 v2 n) v3 v4
def b_X8_newest_0 (h : HP) (v0 : Nat) (v1 : Int32) (v2 : Int32) : Option (Int32) :=
  b_X8_newest_5 h v0 v1 v2 FU ((-1)) 0
def f_X8_newest (h : HP) (v0 : Nat) (v1 : Int32) (v2 : Int32) : Option (Int32) := (kO 8 h v0).bind fun _ => b_X8_newest_0 h v0 v1 v2
theorem w_X8_newest_44 {l : Launch} {X : SCR} {Q : PST} {bc bs : Nat} {res : Int32} {h : HP} (hQ : ∀ sz', Q (.inl (some (.int res))) h sz') {v0 : Nat} {v1 : Int32} {v2 : Int32} {k5 : Int32 → Int32 → Option (Int32)} (hk5 : ∀ (v3 : Int32) (v4 : Int32) (sz : Nat), k5 v3 v4 = some res → SP l X M_X8_newest 5 [(0, .ref v0), (1, .int v1), (2, .int v2), (3, .int v3), (4, .int v4)] [] h sz bc bs Q) {v3 : Int32} {v4 : Int32} {s0 : Int32} {sz : Nat} (hf : b_X8_newest_44 h v0 v1 v2 k5 v3 v4 s0 = some res) : SP l X M_X8_newest 44 [(0, .ref v0), (1, .int v1), (2, .int v2), (3, .int v3), (4, .int v4)] [.int s0] h sz bc bs Q := by
  rw [b_X8_newest_44] at hf
  refine sp_istore (pc := 44) (lv' := [(5, .int s0), (0, .ref v0), (1, .int v1), (2, .int v2), (3, .int v3), (4, .int v4)]) dX8_newest_44 (by decide) rfl ?_
  refine sp_iload (pc := 46) dX8_newest_46 0 rfl ?_
  refine sp_if_eq (pc := 48) (tgt := 85) dX8_newest_48 (by decide) (fun c1 => ?_) (fun c1 => ?_)
  · rw [if_pos c1] at hf
    refine sp_iload_n (pc := 85) dX8_newest_85 4 rfl ?_
    refine sp_istore_n (pc := 86) (lv' := [(3, .int v3), (5, .int s0), (0, .ref v0), (1, .int v1), (2, .int v2), (4, .int v4)]) dX8_newest_86 (by decide) rfl ?_
    refine sp_iinc (pc := 87) (v := v4 + 1) (lv' := [(4, .int (v4 + 1)), (3, .int v3), (5, .int s0), (0, .ref v0), (1, .int v1), (2, .int v2)]) dX8_newest_87 5 rfl rfl (by decide) rfl ?_
    refine sp_goto (pc := 90) (tgt := 5) dX8_newest_90 (by decide) ?_
    exact sp_sub [3, 4, 5, 1, 0] rfl (hk5 _ _ _ hf)
  · rw [if_neg c1] at hf
    refine sp_iload_n (pc := 51) dX8_newest_51 4 rfl ?_
    refine sp_iconst (pc := 52) (v := (-1)) dX8_newest_52 (by decide) ?_
    refine sp_icmp_eq (pc := 53) (tgt := 80) dX8_newest_53 (by decide) (fun c2 => ?_) (fun c2 => ?_)
    · rw [if_pos c2] at hf
      refine sp_iload (pc := 80) dX8_newest_80 5 rfl ?_
      refine sp_goto (pc := 82) (tgt := 86) dX8_newest_82 (by decide) ?_
      refine sp_istore_n (pc := 86) (lv' := [(3, .int v4), (5, .int s0), (0, .ref v0), (1, .int v1), (2, .int v2), (4, .int v4)]) dX8_newest_86 (by decide) rfl ?_
      refine sp_iinc (pc := 87) (v := v4 + 1) (lv' := [(4, .int (v4 + 1)), (3, .int v4), (5, .int s0), (0, .ref v0), (1, .int v1), (2, .int v2)]) dX8_newest_87 5 rfl rfl (by decide) rfl ?_
      refine sp_goto (pc := 90) (tgt := 5) dX8_newest_90 (by decide) ?_
      exact sp_sub [3, 4, 5, 1, 0] rfl (hk5 _ _ _ hf)
    · rw [if_neg c2] at hf
      refine sp_aload_n (pc := 56) dX8_newest_56 1 rfl ?_
      obtain ⟨x3, ex3, hf⟩ := ob hf
      refine sp_gR (pc := 57) fl_RX8_7 dX8_newest_57 ex3 ?_
      refine sp_iload (pc := 60) dX8_newest_60 5 rfl ?_
      refine sp_iconst (pc := 62) (v := 0) dX8_newest_62 (by decide) ?_
      obtain ⟨y4, ey4, hf⟩ := ob hf
      refine sp_callSi (pc := 63) (z := M_X8_of) (As := [.int v4, .int 0]) (bc2 := bc) (bs2 := bs) (m_X8_of (Q := _) (fun sz => ⟨y4, rfl, ?_⟩) ey4) rfl dX8_newest_63 rfl ck_X8_newest_50 (Nat.le_of_ble_eq_true rfl) rfl rfl rfl
      obtain ⟨x5, ex5, hf⟩ := ob hf
      refine sp_aI (pc := 66) dX8_newest_66 ex5 ?_
      refine sp_aload_n (pc := 67) dX8_newest_67 1 rfl ?_
      obtain ⟨x6, ex6, hf⟩ := ob hf
      refine sp_gR (pc := 68) fl_RX8_7 dX8_newest_68 ex6 ?_
      refine sp_iload_n (pc := 71) dX8_newest_71 4 rfl ?_
      refine sp_iconst (pc := 72) (v := 0) dX8_newest_72 (by decide) ?_
      obtain ⟨y7, ey7, hf⟩ := ob hf
      refine sp_callSi (pc := 73) (z := M_X8_of) (As := [.int v3, .int 0]) (bc2 := bc) (bs2 := bs) (m_X8_of (Q := _) (fun sz => ⟨y7, rfl, ?_⟩) ey7) rfl dX8_newest_73 rfl ck_X8_newest_50 (Nat.le_of_ble_eq_true rfl) rfl rfl rfl
      obtain ⟨x8, ex8, hf⟩ := ob hf
      refine sp_aI (pc := 76) dX8_newest_76 ex8 ?_
      refine sp_icmp_le (pc := 77) (tgt := 85) dX8_newest_77 (by decide) (fun c9 => ?_) (fun c9 => ?_)
      · rw [if_pos c9] at hf
        refine sp_iload_n (pc := 85) dX8_newest_85 4 rfl ?_
        refine sp_istore_n (pc := 86) (lv' := [(3, .int v3), (5, .int s0), (0, .ref v0), (1, .int v1), (2, .int v2), (4, .int v4)]) dX8_newest_86 (by decide) rfl ?_
        refine sp_iinc (pc := 87) (v := v4 + 1) (lv' := [(4, .int (v4 + 1)), (3, .int v3), (5, .int s0), (0, .ref v0), (1, .int v1), (2, .int v2)]) dX8_newest_87 5 rfl rfl (by decide) rfl ?_
        refine sp_goto (pc := 90) (tgt := 5) dX8_newest_90 (by decide) ?_
        exact sp_sub [3, 4, 5, 1, 0] rfl (hk5 _ _ _ hf)
      · rw [if_neg c9] at hf
        refine sp_iload (pc := 80) dX8_newest_80 5 rfl ?_
        refine sp_goto (pc := 82) (tgt := 86) dX8_newest_82 (by decide) ?_
        refine sp_istore_n (pc := 86) (lv' := [(3, .int v4), (5, .int s0), (0, .ref v0), (1, .int v1), (2, .int v2), (4, .int v4)]) dX8_newest_86 (by decide) rfl ?_
        refine sp_iinc (pc := 87) (v := v4 + 1) (lv' := [(4, .int (v4 + 1)), (3, .int v4), (5, .int s0), (0, .ref v0), (1, .int v1), (2, .int v2)]) dX8_newest_87 5 rfl rfl (by decide) rfl ?_
        refine sp_goto (pc := 90) (tgt := 5) dX8_newest_90 (by decide) ?_
        exact sp_sub [3, 4, 5, 1, 0] rfl (hk5 _ _ _ hf)

theorem wc_X8_newest_5 {l : Launch} {X : SCR} {Q : PST} {bc bs : Nat} {res : Int32} {h : HP} (hQ : ∀ sz', Q (.inl (some (.int res))) h sz') {v0 : Nat} {v1 : Int32} {v2 : Int32} {k5 : Int32 → Int32 → Option (Int32)} (hk5 : ∀ (v3 : Int32) (v4 : Int32) (sz : Nat), k5 v3 v4 = some res → SP l X M_X8_newest 5 [(0, .ref v0), (1, .int v1), (2, .int v2), (3, .int v3), (4, .int v4)] [] h sz bc bs Q) {v3 : Int32} {v4 : Int32} {sz : Nat} (hf : c_X8_newest_5 h v0 v1 v2 k5 v3 v4 = some res) : SP l X M_X8_newest 5 [(0, .ref v0), (1, .int v1), (2, .int v2), (3, .int v3), (4, .int v4)] [] h sz bc bs Q := by
  rw [c_X8_newest_5] at hf
  refine sp_iload (pc := 5) dX8_newest_5 4 rfl ?_
  refine sp_aload_n (pc := 7) dX8_newest_7 0 rfl ?_
  obtain ⟨y1, ey1, hf⟩ := ob hf
  obtain ⟨fsy1, hoy1⟩ := o_X8_all ey1
  refine sp_callVi (pc := 8) (z := M_X8_all) (As := []) (b := v0) (bc2 := bc) (bs2 := bs) (m_X8_all (Q := _) (fun sz => ⟨y1, rfl, ?_⟩) ey1) rfl dX8_newest_8 hoy1 rfl rfl ck_X8_newest_54 (Nat.le_of_ble_eq_true rfl) rfl rfl rfl
  refine sp_icmp_ge (pc := 11) (tgt := 93) dX8_newest_11 (by decide) (fun c2 => ?_) (fun c2 => ?_)
  · rw [if_pos c2] at hf
    refine sp_iload_n (pc := 93) dX8_newest_93 3 rfl ?_
    obtain rfl := Option.some.inj hf
    exact sp_ireturn (pc := 94) dX8_newest_94 rfl rfl (hQ _)
  · rw [if_neg c2] at hf
    refine sp_aload_n (pc := 14) dX8_newest_14 0 rfl ?_
    refine sp_iload (pc := 15) dX8_newest_15 4 rfl ?_
    refine sp_iload_n (pc := 17) dX8_newest_17 1 rfl ?_
    obtain ⟨y3, ey3, hf⟩ := ob hf
    obtain ⟨fsy3, hoy3⟩ := o_X8_concerns ey3
    refine sp_callVi (pc := 18) (z := M_X8_concerns) (As := [.int v4, .int v1]) (b := v0) (bc2 := bc) (bs2 := bs) (m_X8_concerns (Q := _) (fun sz => ⟨y3, rfl, ?_⟩) ey3) rfl dX8_newest_18 hoy3 rfl rfl ck_X8_newest_58 (Nat.le_of_ble_eq_true rfl) rfl rfl rfl
    refine sp_if_eq (pc := 21) (tgt := 43) dX8_newest_21 (by decide) (fun c4 => ?_) (fun c4 => ?_)
    · rw [if_pos c4] at hf
      refine sp_iconst (pc := 43) (v := 0) dX8_newest_43 (by decide) ?_
      exact (w_X8_newest_44 hQ hk5 hf)
    · rw [if_neg c4] at hf
      refine sp_aload_n (pc := 24) dX8_newest_24 0 rfl ?_
      obtain ⟨x5, ex5, hf⟩ := ob hf
      refine sp_gR (pc := 25) fl_RX8_7 dX8_newest_25 ex5 ?_
      refine sp_iload (pc := 28) dX8_newest_28 4 rfl ?_
      refine sp_iconst (pc := 30) (v := 0) dX8_newest_30 (by decide) ?_
      obtain ⟨y6, ey6, hf⟩ := ob hf
      refine sp_callSi (pc := 31) (z := M_X8_of) (As := [.int v4, .int 0]) (bc2 := bc) (bs2 := bs) (m_X8_of (Q := _) (fun sz => ⟨y6, rfl, ?_⟩) ey6) rfl dX8_newest_31 rfl ck_X8_newest_50 (Nat.le_of_ble_eq_true rfl) rfl rfl rfl
      obtain ⟨x7, ex7, hf⟩ := ob hf
      refine sp_aI (pc := 34) dX8_newest_34 ex7 ?_
      refine sp_iload_n (pc := 35) dX8_newest_35 2 rfl ?_
      refine sp_icmp_gt (pc := 36) (tgt := 43) dX8_newest_36 (by decide) (fun c8 => ?_) (fun c8 => ?_)
      · rw [if_pos c8] at hf
        refine sp_iconst (pc := 43) (v := 0) dX8_newest_43 (by decide) ?_
        exact (w_X8_newest_44 hQ hk5 hf)
      · rw [if_neg c8] at hf
        refine sp_iconst (pc := 39) (v := 1) dX8_newest_39 (by decide) ?_
        refine sp_goto (pc := 40) (tgt := 44) dX8_newest_40 (by decide) ?_
        exact (w_X8_newest_44 hQ hk5 hf)

theorem w_X8_newest_5 {l : Launch} {X : SCR} {Q : PST} {bc bs : Nat} {res : Int32} {h : HP} (hQ : ∀ sz', Q (.inl (some (.int res))) h sz') {v0 : Nat} {v1 : Int32} {v2 : Int32} : ∀ (n : Nat) {v3 : Int32} {v4 : Int32} {sz : Nat}, b_X8_newest_5 h v0 v1 v2 n v3 v4 = some res → SP l X M_X8_newest 5 [(0, .ref v0), (1, .int v1), (2, .int v2), (3, .int v3), (4, .int v4)] [] h sz bc bs Q := by
  intro n
  induction n with
  | zero =>
    intro v3 v4 sz hf
    rw [b_X8_newest_5] at hf
    cases hf
  | succ n ih =>
    intro v3 v4 sz hf
    rw [b_X8_newest_5] at hf
    exact wc_X8_newest_5 hQ (fun v3 v4 sz hf => ih hf) hf

theorem w_X8_newest_0 {l : Launch} {X : SCR} {Q : PST} {bc bs : Nat} {res : Int32} {h : HP} (hQ : ∀ sz', Q (.inl (some (.int res))) h sz') {v0 : Nat} {v1 : Int32} {v2 : Int32} {sz : Nat} (hf : b_X8_newest_0 h v0 v1 v2  = some res) : SP l X M_X8_newest 0 [(0, .ref v0), (1, .int v1), (2, .int v2)] [] h sz bc bs Q := by
  rw [b_X8_newest_0] at hf
  refine sp_iconst (pc := 0) (v := (-1)) dX8_newest_0 (by decide) ?_
  refine sp_istore_n (pc := 1) (lv' := [(3, .int (-1)), (0, .ref v0), (1, .int v1), (2, .int v2)]) dX8_newest_1 (by decide) rfl ?_
  refine sp_iconst (pc := 2) (v := 0) dX8_newest_2 (by decide) ?_
  refine sp_istore (pc := 3) (lv' := [(4, .int 0), (3, .int (-1)), (0, .ref v0), (1, .int v1), (2, .int v2)]) dX8_newest_3 (by decide) rfl ?_
  exact sp_sub [2, 3, 4, 1, 0] rfl (w_X8_newest_5 hQ FU hf)

theorem o_X8_newest {h : HP} {v0 : Nat} {v1 : Int32} {v2 : Int32} {res : Int32} (hf : f_X8_newest h v0 v1 v2 = some res) : ∃ fs, h v0 = some (.inr (8, fs)) := by
  obtain ⟨u, eu, -⟩ := ob hf
  exact kO_spec eu

theorem m_X8_newest {l : Launch} {Q : PST} {h : HP} {v0 : Nat} {v1 : Int32} {v2 : Int32} {sz : Nat} {res : Int32} (hQ : ∀ sz', Q (.inl (some (.int res))) h sz') (hf : f_X8_newest h v0 v1 v2 = some res) : MM l M_X8_newest [.ref v0, .int v1, .int v2] h sz Q := by
  obtain ⟨u, eu, hf⟩ := ob hf
  exact MM_of wok_X8_newest (by decide +kernel) (Nat.le_of_ble_eq_true rfl) ((w_X8_newest_0 hQ hf))

theorem dX8_upTo_0 : decode (mB M_X8_upTo) 0 = .ok (.iload_n 1, 1) := by decide +kernel
theorem dX8_upTo_1 : decode (mB M_X8_upTo) 1 = .ok (.iconst (-1), 1) := by decide +kernel
theorem dX8_upTo_2 : decode (mB M_X8_upTo) 2 = .ok (.if_icmp .ne 13, 3) := by decide +kernel
theorem dX8_upTo_5 : decode (mB M_X8_upTo) 5 = .ok (.aload_n 0, 1) := by decide +kernel
theorem dX8_upTo_6 : decode (mB M_X8_upTo) 6 = .ok (.getfield 7, 3) := by decide +kernel
theorem dX8_upTo_9 : decode (mB M_X8_upTo) 9 = .ok (.bipush 10, 2) := by decide +kernel
theorem dX8_upTo_11 : decode (mB M_X8_upTo) 11 = .ok (.iaload, 1) := by decide +kernel
theorem dX8_upTo_12 : decode (mB M_X8_upTo) 12 = .ok (.goto 12, 3) := by decide +kernel
theorem dX8_upTo_15 : decode (mB M_X8_upTo) 15 = .ok (.aload_n 0, 1) := by decide +kernel
theorem dX8_upTo_16 : decode (mB M_X8_upTo) 16 = .ok (.getfield 7, 3) := by decide +kernel
theorem dX8_upTo_19 : decode (mB M_X8_upTo) 19 = .ok (.bipush 8, 2) := by decide +kernel
theorem dX8_upTo_21 : decode (mB M_X8_upTo) 21 = .ok (.iload_n 1, 1) := by decide +kernel
theorem dX8_upTo_22 : decode (mB M_X8_upTo) 22 = .ok (.iadd, 1) := by decide +kernel
theorem dX8_upTo_23 : decode (mB M_X8_upTo) 23 = .ok (.iaload, 1) := by decide +kernel
theorem dX8_upTo_24 : decode (mB M_X8_upTo) 24 = .ok (.ireturn, 1) := by decide +kernel
def b_X8_upTo_0 (h : HP) (v0 : Nat) (v1 : Int32) : Option (Int32) :=
  if v1 = (-1) then (gR 8 1 h v0).bind fun x4 => (aI h x4 10).bind fun x5 => some (x5) else (gR 8 1 h v0).bind fun x2 => (aI h x2 (8 + v1)).bind fun x3 => some (x3)
def f_X8_upTo (h : HP) (v0 : Nat) (v1 : Int32) : Option (Int32) := (kO 8 h v0).bind fun _ => b_X8_upTo_0 h v0 v1
theorem w_X8_upTo_0 {l : Launch} {X : SCR} {Q : PST} {bc bs : Nat} {res : Int32} {h : HP} (hQ : ∀ sz', Q (.inl (some (.int res))) h sz') {v0 : Nat} {v1 : Int32} {sz : Nat} (hf : b_X8_upTo_0 h v0 v1  = some res) : SP l X M_X8_upTo 0 [(0, .ref v0), (1, .int v1)] [] h sz bc bs Q := by
  rw [b_X8_upTo_0] at hf
  refine sp_iload_n (pc := 0) dX8_upTo_0 1 rfl ?_
  refine sp_iconst (pc := 1) (v := (-1)) dX8_upTo_1 (by decide) ?_
  refine sp_icmp_ne (pc := 2) (tgt := 15) dX8_upTo_2 (by decide) (fun c1 => ?_) (fun c1 => ?_)
  · rw [if_neg c1] at hf
    refine sp_aload_n (pc := 15) dX8_upTo_15 0 rfl ?_
    obtain ⟨x2, ex2, hf⟩ := ob hf
    refine sp_gR (pc := 16) fl_RX8_7 dX8_upTo_16 ex2 ?_
    refine sp_bipush (pc := 19) (v := 8) dX8_upTo_19 (by decide) ?_
    refine sp_iload_n (pc := 21) dX8_upTo_21 1 rfl ?_
    refine sp_iadd (pc := 22) dX8_upTo_22 ?_
    obtain ⟨x3, ex3, hf⟩ := ob hf
    refine sp_aI (pc := 23) dX8_upTo_23 ex3 ?_
    obtain rfl := Option.some.inj hf
    exact sp_ireturn (pc := 24) dX8_upTo_24 rfl rfl (hQ _)
  · rw [if_pos c1] at hf
    refine sp_aload_n (pc := 5) dX8_upTo_5 0 rfl ?_
    obtain ⟨x4, ex4, hf⟩ := ob hf
    refine sp_gR (pc := 6) fl_RX8_7 dX8_upTo_6 ex4 ?_
    refine sp_bipush (pc := 9) (v := 10) dX8_upTo_9 (by decide) ?_
    obtain ⟨x5, ex5, hf⟩ := ob hf
    refine sp_aI (pc := 11) dX8_upTo_11 ex5 ?_
    refine sp_goto (pc := 12) (tgt := 24) dX8_upTo_12 (by decide) ?_
    obtain rfl := Option.some.inj hf
    exact sp_ireturn (pc := 24) dX8_upTo_24 rfl rfl (hQ _)

theorem o_X8_upTo {h : HP} {v0 : Nat} {v1 : Int32} {res : Int32} (hf : f_X8_upTo h v0 v1 = some res) : ∃ fs, h v0 = some (.inr (8, fs)) := by
  obtain ⟨u, eu, -⟩ := ob hf
  exact kO_spec eu

theorem m_X8_upTo {l : Launch} {Q : PST} {h : HP} {v0 : Nat} {v1 : Int32} {sz : Nat} {res : Int32} (hQ : ∀ sz', Q (.inl (some (.int res))) h sz') (hf : f_X8_upTo h v0 v1 = some res) : MM l M_X8_upTo [.ref v0, .int v1] h sz Q := by
  obtain ⟨u, eu, hf⟩ := ob hf
  exact MM_of wok_X8_upTo (by decide +kernel) (Nat.le_of_ble_eq_true rfl) ((w_X8_upTo_0 hQ hf))

theorem dX8_seen_0 : decode (mB M_X8_seen) 0 = .ok (.aload_n 0, 1) := by decide +kernel
theorem dX8_seen_1 : decode (mB M_X8_seen) 1 = .ok (.iload_n 1, 1) := by decide +kernel
theorem dX8_seen_2 : decode (mB M_X8_seen) 2 = .ok (.aload_n 0, 1) := by decide +kernel
theorem dX8_seen_3 : decode (mB M_X8_seen) 3 = .ok (.iload_n 2, 1) := by decide +kernel
theorem dX8_seen_4 : decode (mB M_X8_seen) 4 = .ok (.invokevirtual 62, 3) := by decide +kernel
theorem dX8_seen_7 : decode (mB M_X8_seen) 7 = .ok (.invokevirtual 65, 3) := by decide +kernel
theorem dX8_seen_10 : decode (mB M_X8_seen) 10 = .ok (.istore_n 3, 1) := by decide +kernel
theorem dX8_seen_11 : decode (mB M_X8_seen) 11 = .ok (.iload_n 3, 1) := by decide +kernel
theorem dX8_seen_12 : decode (mB M_X8_seen) 12 = .ok (.iconst (-1), 1) := by decide +kernel
theorem dX8_seen_13 : decode (mB M_X8_seen) 13 = .ok (.if_icmp .eq 11, 3) := by decide +kernel
theorem dX8_seen_16 : decode (mB M_X8_seen) 16 = .ok (.aload_n 0, 1) := by decide +kernel
theorem dX8_seen_17 : decode (mB M_X8_seen) 17 = .ok (.iload_n 3, 1) := by decide +kernel
theorem dX8_seen_18 : decode (mB M_X8_seen) 18 = .ok (.invokevirtual 68, 3) := by decide +kernel
theorem dX8_seen_21 : decode (mB M_X8_seen) 21 = .ok (.ifCond .ne 7, 3) := by decide +kernel
theorem dX8_seen_24 : decode (mB M_X8_seen) 24 = .ok (.iconst (-1), 1) := by decide +kernel
theorem dX8_seen_25 : decode (mB M_X8_seen) 25 = .ok (.goto 13, 3) := by decide +kernel
theorem dX8_seen_28 : decode (mB M_X8_seen) 28 = .ok (.aload_n 0, 1) := by decide +kernel
theorem dX8_seen_29 : decode (mB M_X8_seen) 29 = .ok (.getfield 7, 3) := by decide +kernel
theorem dX8_seen_32 : decode (mB M_X8_seen) 32 = .ok (.iload_n 3, 1) := by decide +kernel
theorem dX8_seen_33 : decode (mB M_X8_seen) 33 = .ok (.iconst 3, 1) := by decide +kernel
theorem dX8_seen_34 : decode (mB M_X8_seen) 34 = .ok (.invokestatic 50, 3) := by decide +kernel
theorem dX8_seen_37 : decode (mB M_X8_seen) 37 = .ok (.iaload, 1) := by decide +kernel
theorem dX8_seen_38 : decode (mB M_X8_seen) 38 = .ok (.ireturn, 1) := by decide +kernel
def b_X8_seen_0 (h : HP) (v0 : Nat) (v1 : Int32) (v2 : Int32) : Option (Int32) :=
  (f_X8_upTo h v0 v2).bind fun y1 => (f_X8_newest h v0 v1 y1).bind fun y2 => if y2 = (-1) then some ((-1)) else (f_X8_isEntry h v0 y2).bind fun y4 => if y4 = 0 then some ((-1)) else (gR 8 1 h v0).bind fun x6 => (f_X8_of h y2 3).bind fun y7 => (aI h x6 y7).bind fun x8 => some (x8)
def f_X8_seen (h : HP) (v0 : Nat) (v1 : Int32) (v2 : Int32) : Option (Int32) := (kO 8 h v0).bind fun _ => b_X8_seen_0 h v0 v1 v2
theorem w_X8_seen_0 {l : Launch} {X : SCR} {Q : PST} {bc bs : Nat} {res : Int32} {h : HP} (hQ : ∀ sz', Q (.inl (some (.int res))) h sz') {v0 : Nat} {v1 : Int32} {v2 : Int32} {sz : Nat} (hf : b_X8_seen_0 h v0 v1 v2  = some res) : SP l X M_X8_seen 0 [(0, .ref v0), (1, .int v1), (2, .int v2)] [] h sz bc bs Q := by
  rw [b_X8_seen_0] at hf
  refine sp_aload_n (pc := 0) dX8_seen_0 0 rfl ?_
  refine sp_iload_n (pc := 1) dX8_seen_1 1 rfl ?_
  refine sp_aload_n (pc := 2) dX8_seen_2 0 rfl ?_
  refine sp_iload_n (pc := 3) dX8_seen_3 2 rfl ?_
  obtain ⟨y1, ey1, hf⟩ := ob hf
  obtain ⟨fsy1, hoy1⟩ := o_X8_upTo ey1
  refine sp_callVi (pc := 4) (z := M_X8_upTo) (As := [.int v2]) (b := v0) (bc2 := bc) (bs2 := bs) (m_X8_upTo (Q := _) (fun sz => ⟨y1, rfl, ?_⟩) ey1) rfl dX8_seen_4 hoy1 rfl rfl ck_X8_seen_62 (Nat.le_of_ble_eq_true rfl) rfl rfl rfl
  obtain ⟨y2, ey2, hf⟩ := ob hf
  obtain ⟨fsy2, hoy2⟩ := o_X8_newest ey2
  refine sp_callVi (pc := 7) (z := M_X8_newest) (As := [.int v1, .int y1]) (b := v0) (bc2 := bc) (bs2 := bs) (m_X8_newest (Q := _) (fun sz => ⟨y2, rfl, ?_⟩) ey2) rfl dX8_seen_7 hoy2 rfl rfl ck_X8_seen_65 (Nat.le_of_ble_eq_true rfl) rfl rfl rfl
  refine sp_istore_n (pc := 10) (lv' := [(3, .int y2), (0, .ref v0), (1, .int v1), (2, .int v2)]) dX8_seen_10 (by decide) rfl ?_
  refine sp_iload_n (pc := 11) dX8_seen_11 0 rfl ?_
  refine sp_iconst (pc := 12) (v := (-1)) dX8_seen_12 (by decide) ?_
  refine sp_icmp_eq (pc := 13) (tgt := 24) dX8_seen_13 (by decide) (fun c3 => ?_) (fun c3 => ?_)
  · rw [if_pos c3] at hf
    refine sp_iconst (pc := 24) (v := (-1)) dX8_seen_24 (by decide) ?_
    refine sp_goto (pc := 25) (tgt := 38) dX8_seen_25 (by decide) ?_
    obtain rfl := Option.some.inj hf
    exact sp_ireturn (pc := 38) dX8_seen_38 rfl rfl (hQ _)
  · rw [if_neg c3] at hf
    refine sp_aload_n (pc := 16) dX8_seen_16 1 rfl ?_
    refine sp_iload_n (pc := 17) dX8_seen_17 0 rfl ?_
    obtain ⟨y4, ey4, hf⟩ := ob hf
    obtain ⟨fsy4, hoy4⟩ := o_X8_isEntry ey4
    refine sp_callVi (pc := 18) (z := M_X8_isEntry) (As := [.int y2]) (b := v0) (bc2 := bc) (bs2 := bs) (m_X8_isEntry (Q := _) (fun sz => ⟨y4, rfl, ?_⟩) ey4) rfl dX8_seen_18 hoy4 rfl rfl ck_X8_seen_68 (Nat.le_of_ble_eq_true rfl) rfl rfl rfl
    refine sp_if_ne (pc := 21) (tgt := 28) dX8_seen_21 (by decide) (fun c5 => ?_) (fun c5 => ?_)
    · rw [if_neg c5] at hf
      refine sp_aload_n (pc := 28) dX8_seen_28 1 rfl ?_
      obtain ⟨x6, ex6, hf⟩ := ob hf
      refine sp_gR (pc := 29) fl_RX8_7 dX8_seen_29 ex6 ?_
      refine sp_iload_n (pc := 32) dX8_seen_32 0 rfl ?_
      refine sp_iconst (pc := 33) (v := 3) dX8_seen_33 (by decide) ?_
      obtain ⟨y7, ey7, hf⟩ := ob hf
      refine sp_callSi (pc := 34) (z := M_X8_of) (As := [.int y2, .int 3]) (bc2 := bc) (bs2 := bs) (m_X8_of (Q := _) (fun sz => ⟨y7, rfl, ?_⟩) ey7) rfl dX8_seen_34 rfl ck_X8_seen_50 (Nat.le_of_ble_eq_true rfl) rfl rfl rfl
      obtain ⟨x8, ex8, hf⟩ := ob hf
      refine sp_aI (pc := 37) dX8_seen_37 ex8 ?_
      obtain rfl := Option.some.inj hf
      exact sp_ireturn (pc := 38) dX8_seen_38 rfl rfl (hQ _)
    · rw [if_pos c5] at hf
      refine sp_iconst (pc := 24) (v := (-1)) dX8_seen_24 (by decide) ?_
      refine sp_goto (pc := 25) (tgt := 38) dX8_seen_25 (by decide) ?_
      obtain rfl := Option.some.inj hf
      exact sp_ireturn (pc := 38) dX8_seen_38 rfl rfl (hQ _)

theorem o_X8_seen {h : HP} {v0 : Nat} {v1 : Int32} {v2 : Int32} {res : Int32} (hf : f_X8_seen h v0 v1 v2 = some res) : ∃ fs, h v0 = some (.inr (8, fs)) := by
  obtain ⟨u, eu, -⟩ := ob hf
  exact kO_spec eu

theorem m_X8_seen {l : Launch} {Q : PST} {h : HP} {v0 : Nat} {v1 : Int32} {v2 : Int32} {sz : Nat} {res : Int32} (hQ : ∀ sz', Q (.inl (some (.int res))) h sz') (hf : f_X8_seen h v0 v1 v2 = some res) : MM l M_X8_seen [.ref v0, .int v1, .int v2] h sz Q := by
  obtain ⟨u, eu, hf⟩ := ob hf
  exact MM_of wok_X8_seen (by decide +kernel) (Nat.le_of_ble_eq_true rfl) ((w_X8_seen_0 hQ hf))

theorem dX8_countSeen_0 : decode (mB M_X8_countSeen) 0 = .ok (.iconst 0, 1) := by decide +kernel
theorem dX8_countSeen_1 : decode (mB M_X8_countSeen) 1 = .ok (.istore 4, 2) := by decide +kernel
theorem dX8_countSeen_3 : decode (mB M_X8_countSeen) 3 = .ok (.iload_n 1, 1) := by decide +kernel
theorem dX8_countSeen_4 : decode (mB M_X8_countSeen) 4 = .ok (.istore 5, 2) := by decide +kernel
theorem dX8_countSeen_6 : decode (mB M_X8_countSeen) 6 = .ok (.iload 5, 2) := by decide +kernel
theorem dX8_countSeen_8 : decode (mB M_X8_countSeen) 8 = .ok (.iload_n 2, 1) := by decide +kernel
theorem dX8_countSeen_9 : decode (mB M_X8_countSeen) 9 = .ok (.if_icmp .gt 30, 3) := by decide +kernel
theorem dX8_countSeen_12 : decode (mB M_X8_countSeen) 12 = .ok (.iload 4, 2) := by decide +kernel
theorem dX8_countSeen_14 : decode (mB M_X8_countSeen) 14 = .ok (.aload_n 0, 1) := by decide +kernel
theorem dX8_countSeen_15 : decode (mB M_X8_countSeen) 15 = .ok (.iload 5, 2) := by decide +kernel
theorem dX8_countSeen_17 : decode (mB M_X8_countSeen) 17 = .ok (.iload_n 3, 1) := by decide +kernel
theorem dX8_countSeen_18 : decode (mB M_X8_countSeen) 18 = .ok (.invokevirtual 72, 3) := by decide +kernel
theorem dX8_countSeen_21 : decode (mB M_X8_countSeen) 21 = .ok (.iconst (-1), 1) := by decide +kernel
theorem dX8_countSeen_22 : decode (mB M_X8_countSeen) 22 = .ok (.if_icmp .ne 7, 3) := by decide +kernel
theorem dX8_countSeen_25 : decode (mB M_X8_countSeen) 25 = .ok (.iconst 0, 1) := by decide +kernel
theorem dX8_countSeen_26 : decode (mB M_X8_countSeen) 26 = .ok (.goto 4, 3) := by decide +kernel
theorem dX8_countSeen_29 : decode (mB M_X8_countSeen) 29 = .ok (.iconst 1, 1) := by decide +kernel
theorem dX8_countSeen_30 : decode (mB M_X8_countSeen) 30 = .ok (.iadd, 1) := by decide +kernel
theorem dX8_countSeen_31 : decode (mB M_X8_countSeen) 31 = .ok (.istore 4, 2) := by decide +kernel
theorem dX8_countSeen_33 : decode (mB M_X8_countSeen) 33 = .ok (.iinc 5 1, 3) := by decide +kernel
theorem dX8_countSeen_36 : decode (mB M_X8_countSeen) 36 = .ok (.goto (-30), 3) := by decide +kernel
theorem dX8_countSeen_39 : decode (mB M_X8_countSeen) 39 = .ok (.iload 4, 2) := by decide +kernel
theorem dX8_countSeen_41 : decode (mB M_X8_countSeen) 41 = .ok (.ireturn, 1) := by decide +kernel
def c_X8_countSeen_6 (h : HP) (v0 : Nat) (v2 : Int32) (v3 : Int32) (k6 : Int32 → Int32 → Option (Int32)) (v4 : Int32) (v5 : Int32) : Option (Int32) :=
  if v2 < v5 then some (v4) else (f_X8_seen h v0 v5 v3).bind fun y2 => if y2 = (-1) then k6 (v4 + 0) (v5 + 1) else k6 (v4 + 1) (v5 + 1)
def b_X8_countSeen_6 (h : HP) (v0 : Nat) (v2 : Int32) (v3 : Int32) : Nat → Int32 → Int32 → Option (Int32)
  | 0, _, _ => none
  | n + 1, v4, v5 => c_X8_countSeen_6 h v0 v2 v3 (b_X8_countSeen_6 h v0 v2 v3 n) v4 v5
def b_X8_countSeen_0 (h : HP) (v0 : Nat) (v1 : Int32) (v2 : Int32) (v3 : Int32) : Option (Int32) :=
  b_X8_countSeen_6 h v0 v2 v3 FU 0 v1
def f_X8_countSeen (h : HP) (v0 : Nat) (v1 : Int32) (v2 : Int32) (v3 : Int32) : Option (Int32) := (kO 8 h v0).bind fun _ => b_X8_countSeen_0 h v0 v1 v2 v3
theorem wc_X8_countSeen_6 {l : Launch} {X : SCR} {Q : PST} {bc bs : Nat} {res : Int32} {h : HP} (hQ : ∀ sz', Q (.inl (some (.int res))) h sz') {v0 : Nat} {v2 : Int32} {v3 : Int32} {k6 : Int32 → Int32 → Option (Int32)} (hk6 : ∀ (v4 : Int32) (v5 : Int32) (sz : Nat), k6 v4 v5 = some res → SP l X M_X8_countSeen 6 [(0, .ref v0), (2, .int v2), (3, .int v3), (4, .int v4), (5, .int v5)] [] h sz bc bs Q) {v4 : Int32} {v5 : Int32} {sz : Nat} (hf : c_X8_countSeen_6 h v0 v2 v3 k6 v4 v5 = some res) : SP l X M_X8_countSeen 6 [(0, .ref v0), (2, .int v2), (3, .int v3), (4, .int v4), (5, .int v5)] [] h sz bc bs Q := by
  rw [c_X8_countSeen_6] at hf
  refine sp_iload (pc := 6) dX8_countSeen_6 4 rfl ?_
  refine sp_iload_n (pc := 8) dX8_countSeen_8 1 rfl ?_
  refine sp_icmp_gt (pc := 9) (tgt := 39) dX8_countSeen_9 (by decide) (fun c1 => ?_) (fun c1 => ?_)
  · rw [if_pos c1] at hf
    refine sp_iload (pc := 39) dX8_countSeen_39 3 rfl ?_
    obtain rfl := Option.some.inj hf
    exact sp_ireturn (pc := 41) dX8_countSeen_41 rfl rfl (hQ _)
  · rw [if_neg c1] at hf
    refine sp_iload (pc := 12) dX8_countSeen_12 3 rfl ?_
    refine sp_aload_n (pc := 14) dX8_countSeen_14 0 rfl ?_
    refine sp_iload (pc := 15) dX8_countSeen_15 4 rfl ?_
    refine sp_iload_n (pc := 17) dX8_countSeen_17 2 rfl ?_
    obtain ⟨y2, ey2, hf⟩ := ob hf
    obtain ⟨fsy2, hoy2⟩ := o_X8_seen ey2
    refine sp_callVi (pc := 18) (z := M_X8_seen) (As := [.int v5, .int v3]) (b := v0) (bc2 := bc) (bs2 := bs) (m_X8_seen (Q := _) (fun sz => ⟨y2, rfl, ?_⟩) ey2) rfl dX8_countSeen_18 hoy2 rfl rfl ck_X8_countSeen_72 (Nat.le_of_ble_eq_true rfl) rfl rfl rfl
    refine sp_iconst (pc := 21) (v := (-1)) dX8_countSeen_21 (by decide) ?_
    refine sp_icmp_ne (pc := 22) (tgt := 29) dX8_countSeen_22 (by decide) (fun c3 => ?_) (fun c3 => ?_)
    · rw [if_neg c3] at hf
      refine sp_iconst (pc := 29) (v := 1) dX8_countSeen_29 (by decide) ?_
      refine sp_iadd (pc := 30) dX8_countSeen_30 ?_
      refine sp_istore (pc := 31) (lv' := [(4, .int (v4 + 1)), (0, .ref v0), (2, .int v2), (3, .int v3), (5, .int v5)]) dX8_countSeen_31 (by decide) rfl ?_
      refine sp_iinc (pc := 33) (v := v5 + 1) (lv' := [(5, .int (v5 + 1)), (4, .int (v4 + 1)), (0, .ref v0), (2, .int v2), (3, .int v3)]) dX8_countSeen_33 4 rfl rfl (by decide) rfl ?_
      refine sp_goto (pc := 36) (tgt := 6) dX8_countSeen_36 (by decide) ?_
      exact sp_sub [2, 3, 4, 1, 0] rfl (hk6 _ _ _ hf)
    · rw [if_pos c3] at hf
      refine sp_iconst (pc := 25) (v := 0) dX8_countSeen_25 (by decide) ?_
      refine sp_goto (pc := 26) (tgt := 30) dX8_countSeen_26 (by decide) ?_
      refine sp_iadd (pc := 30) dX8_countSeen_30 ?_
      refine sp_istore (pc := 31) (lv' := [(4, .int (v4 + 0)), (0, .ref v0), (2, .int v2), (3, .int v3), (5, .int v5)]) dX8_countSeen_31 (by decide) rfl ?_
      refine sp_iinc (pc := 33) (v := v5 + 1) (lv' := [(5, .int (v5 + 1)), (4, .int (v4 + 0)), (0, .ref v0), (2, .int v2), (3, .int v3)]) dX8_countSeen_33 4 rfl rfl (by decide) rfl ?_
      refine sp_goto (pc := 36) (tgt := 6) dX8_countSeen_36 (by decide) ?_
      exact sp_sub [2, 3, 4, 1, 0] rfl (hk6 _ _ _ hf)

theorem w_X8_countSeen_6 {l : Launch} {X : SCR} {Q : PST} {bc bs : Nat} {res : Int32} {h : HP} (hQ : ∀ sz', Q (.inl (some (.int res))) h sz') {v0 : Nat} {v2 : Int32} {v3 : Int32} : ∀ (n : Nat) {v4 : Int32} {v5 : Int32} {sz : Nat}, b_X8_countSeen_6 h v0 v2 v3 n v4 v5 = some res → SP l X M_X8_countSeen 6 [(0, .ref v0), (2, .int v2), (3, .int v3), (4, .int v4), (5, .int v5)] [] h sz bc bs Q := by
  intro n
  induction n with
  | zero =>
    intro v4 v5 sz hf
    rw [b_X8_countSeen_6] at hf
    cases hf
  | succ n ih =>
    intro v4 v5 sz hf
    rw [b_X8_countSeen_6] at hf
    exact wc_X8_countSeen_6 hQ (fun v4 v5 sz hf => ih hf) hf

theorem w_X8_countSeen_0 {l : Launch} {X : SCR} {Q : PST} {bc bs : Nat} {res : Int32} {h : HP} (hQ : ∀ sz', Q (.inl (some (.int res))) h sz') {v0 : Nat} {v1 : Int32} {v2 : Int32} {v3 : Int32} {sz : Nat} (hf : b_X8_countSeen_0 h v0 v1 v2 v3  = some res) : SP l X M_X8_countSeen 0 [(0, .ref v0), (1, .int v1), (2, .int v2), (3, .int v3)] [] h sz bc bs Q := by
  rw [b_X8_countSeen_0] at hf
  refine sp_iconst (pc := 0) (v := 0) dX8_countSeen_0 (by decide) ?_
  refine sp_istore (pc := 1) (lv' := [(4, .int 0), (0, .ref v0), (1, .int v1), (2, .int v2), (3, .int v3)]) dX8_countSeen_1 (by decide) rfl ?_
  refine sp_iload_n (pc := 3) dX8_countSeen_3 2 rfl ?_
  refine sp_istore (pc := 4) (lv' := [(5, .int v1), (4, .int 0), (0, .ref v0), (1, .int v1), (2, .int v2), (3, .int v3)]) dX8_countSeen_4 (by decide) rfl ?_
  exact sp_sub [2, 4, 5, 1, 0] rfl (w_X8_countSeen_6 hQ FU hf)

theorem o_X8_countSeen {h : HP} {v0 : Nat} {v1 : Int32} {v2 : Int32} {v3 : Int32} {res : Int32} (hf : f_X8_countSeen h v0 v1 v2 v3 = some res) : ∃ fs, h v0 = some (.inr (8, fs)) := by
  obtain ⟨u, eu, -⟩ := ob hf
  exact kO_spec eu

theorem m_X8_countSeen {l : Launch} {Q : PST} {h : HP} {v0 : Nat} {v1 : Int32} {v2 : Int32} {v3 : Int32} {sz : Nat} {res : Int32} (hQ : ∀ sz', Q (.inl (some (.int res))) h sz') (hf : f_X8_countSeen h v0 v1 v2 v3 = some res) : MM l M_X8_countSeen [.ref v0, .int v1, .int v2, .int v3] h sz Q := by
  obtain ⟨u, eu, hf⟩ := ob hf
  exact MM_of wok_X8_countSeen (by decide +kernel) (Nat.le_of_ble_eq_true rfl) ((w_X8_countSeen_0 hQ hf))

theorem dX8_areParted_0 : decode (mB M_X8_areParted) 0 = .ok (.iconst 0, 1) := by decide +kernel
theorem dX8_areParted_1 : decode (mB M_X8_areParted) 1 = .ok (.istore_n 3, 1) := by decide +kernel
theorem dX8_areParted_2 : decode (mB M_X8_areParted) 2 = .ok (.iconst 0, 1) := by decide +kernel
theorem dX8_areParted_3 : decode (mB M_X8_areParted) 3 = .ok (.istore 4, 2) := by decide +kernel
theorem dX8_areParted_5 : decode (mB M_X8_areParted) 5 = .ok (.iload 4, 2) := by decide +kernel
theorem dX8_areParted_7 : decode (mB M_X8_areParted) 7 = .ok (.aload_n 0, 1) := by decide +kernel
theorem dX8_areParted_8 : decode (mB M_X8_areParted) 8 = .ok (.getfield 7, 3) := by decide +kernel
theorem dX8_areParted_11 : decode (mB M_X8_areParted) 11 = .ok (.bipush 7, 2) := by decide +kernel
theorem dX8_areParted_13 : decode (mB M_X8_areParted) 13 = .ok (.iaload, 1) := by decide +kernel
theorem dX8_areParted_14 : decode (mB M_X8_areParted) 14 = .ok (.if_icmp .ge 47, 3) := by decide +kernel
theorem dX8_areParted_17 : decode (mB M_X8_areParted) 17 = .ok (.iload_n 3, 1) := by decide +kernel
theorem dX8_areParted_18 : decode (mB M_X8_areParted) 18 = .ok (.ifCond .ne 31, 3) := by decide +kernel
theorem dX8_areParted_21 : decode (mB M_X8_areParted) 21 = .ok (.aload_n 0, 1) := by decide +kernel
theorem dX8_areParted_22 : decode (mB M_X8_areParted) 22 = .ok (.getfield 7, 3) := by decide +kernel
theorem dX8_areParted_25 : decode (mB M_X8_areParted) 25 = .ok (.bipush 8, 2) := by decide +kernel
theorem dX8_areParted_27 : decode (mB M_X8_areParted) 27 = .ok (.iload 4, 2) := by decide +kernel
theorem dX8_areParted_29 : decode (mB M_X8_areParted) 29 = .ok (.iadd, 1) := by decide +kernel
theorem dX8_areParted_30 : decode (mB M_X8_areParted) 30 = .ok (.iaload, 1) := by decide +kernel
theorem dX8_areParted_31 : decode (mB M_X8_areParted) 31 = .ok (.iload_n 1, 1) := by decide +kernel
theorem dX8_areParted_32 : decode (mB M_X8_areParted) 32 = .ok (.if_icmp .lt 21, 3) := by decide +kernel
theorem dX8_areParted_35 : decode (mB M_X8_areParted) 35 = .ok (.aload_n 0, 1) := by decide +kernel
theorem dX8_areParted_36 : decode (mB M_X8_areParted) 36 = .ok (.getfield 7, 3) := by decide +kernel
theorem dX8_areParted_39 : decode (mB M_X8_areParted) 39 = .ok (.bipush 8, 2) := by decide +kernel
theorem dX8_areParted_41 : decode (mB M_X8_areParted) 41 = .ok (.iload 4, 2) := by decide +kernel
theorem dX8_areParted_43 : decode (mB M_X8_areParted) 43 = .ok (.iadd, 1) := by decide +kernel
theorem dX8_areParted_44 : decode (mB M_X8_areParted) 44 = .ok (.iaload, 1) := by decide +kernel
theorem dX8_areParted_45 : decode (mB M_X8_areParted) 45 = .ok (.iload_n 2, 1) := by decide +kernel
theorem dX8_areParted_46 : decode (mB M_X8_areParted) 46 = .ok (.if_icmp .ge 7, 3) := by decide +kernel
theorem dX8_areParted_49 : decode (mB M_X8_areParted) 49 = .ok (.iconst 1, 1) := by decide +kernel
theorem dX8_areParted_50 : decode (mB M_X8_areParted) 50 = .ok (.goto 4, 3) := by decide +kernel
theorem dX8_areParted_53 : decode (mB M_X8_areParted) 53 = .ok (.iconst 0, 1) := by decide +kernel
theorem dX8_areParted_54 : decode (mB M_X8_areParted) 54 = .ok (.istore_n 3, 1) := by decide +kernel
theorem dX8_areParted_55 : decode (mB M_X8_areParted) 55 = .ok (.iinc 4 1, 3) := by decide +kernel
theorem dX8_areParted_58 : decode (mB M_X8_areParted) 58 = .ok (.goto (-53), 3) := by decide +kernel
theorem dX8_areParted_61 : decode (mB M_X8_areParted) 61 = .ok (.iload_n 3, 1) := by decide +kernel
theorem dX8_areParted_62 : decode (mB M_X8_areParted) 62 = .ok (.ireturn, 1) := by decide +kernel
def c_X8_areParted_5 (h : HP) (v0 : Nat) (v1 : Int32) (v2 : Int32) (k5 : Int32 → Int32 → Option (Int32)) (v3 : Int32) (v4 : Int32) : Option (Int32) :=
  (gR 8 1 h v0).bind fun x1 => (aI h x1 7).bind fun x2 => if x2 ≤ v4 then bz v3 else if v3 = 0 then (gR 8 1 h v0).bind fun x5 => (aI h x5 (8 + v4)).bind fun x6 => if x6 < v1 then k5 0 (v4 + 1) else (gR 8 1 h v0).bind fun x8 => (aI h x8 (8 + v4)).bind fun x9 => if v2 ≤ x9 then k5 0 (v4 + 1) else k5 1 (v4 + 1) else k5 1 (v4 + 1)
def b_X8_areParted_5 (h : HP) (v0 : Nat) (v1 : Int32) (v2 : Int32) : Nat → Int32 → Int32 → Option (Int32)
  | 0, _, _ => none
  | n + 1, v3, v4 => c_X8_areParted_5 h v0 v1 v2 (b_X8_areParted_5 h v0 v1 v2 n) v3 v4
def b_X8_areParted_0 (h : HP) (v0 : Nat) (v1 : Int32) (v2 : Int32) : Option (Int32) :=
  b_X8_areParted_5 h v0 v1 v2 FU 0 0
def f_X8_areParted (h : HP) (v0 : Nat) (v1 : Int32) (v2 : Int32) : Option (Int32) := (kO 8 h v0).bind fun _ => b_X8_areParted_0 h v0 v1 v2
theorem wc_X8_areParted_5 {l : Launch} {X : SCR} {Q : PST} {bc bs : Nat} {res : Int32} {h : HP} (hQ : ∀ sz', Q (.inl (some (.int res))) h sz') {v0 : Nat} {v1 : Int32} {v2 : Int32} {k5 : Int32 → Int32 → Option (Int32)} (hk5 : ∀ (v3 : Int32) (v4 : Int32) (sz : Nat), k5 v3 v4 = some res → SP l X M_X8_areParted 5 [(0, .ref v0), (1, .int v1), (2, .int v2), (3, .int v3), (4, .int v4)] [] h sz bc bs Q) {v3 : Int32} {v4 : Int32} {sz : Nat} (hf : c_X8_areParted_5 h v0 v1 v2 k5 v3 v4 = some res) : SP l X M_X8_areParted 5 [(0, .ref v0), (1, .int v1), (2, .int v2), (3, .int v3), (4, .int v4)] [] h sz bc bs Q := by
  rw [c_X8_areParted_5] at hf
  refine sp_iload (pc := 5) dX8_areParted_5 4 rfl ?_
  refine sp_aload_n (pc := 7) dX8_areParted_7 0 rfl ?_
  obtain ⟨x1, ex1, hf⟩ := ob hf
  refine sp_gR (pc := 8) fl_RX8_7 dX8_areParted_8 ex1 ?_
  refine sp_bipush (pc := 11) (v := 7) dX8_areParted_11 (by decide) ?_
  obtain ⟨x2, ex2, hf⟩ := ob hf
  refine sp_aI (pc := 13) dX8_areParted_13 ex2 ?_
  refine sp_icmp_ge (pc := 14) (tgt := 61) dX8_areParted_14 (by decide) (fun c3 => ?_) (fun c3 => ?_)
  · rw [if_pos c3] at hf
    refine sp_iload_n (pc := 61) dX8_areParted_61 3 rfl ?_
    exact sp_iretZ (pc := 62) dX8_areParted_62 rfl hf (hQ _)
  · rw [if_neg c3] at hf
    refine sp_iload_n (pc := 17) dX8_areParted_17 3 rfl ?_
    refine sp_if_ne (pc := 18) (tgt := 49) dX8_areParted_18 (by decide) (fun c4 => ?_) (fun c4 => ?_)
    · rw [if_neg c4] at hf
      refine sp_iconst (pc := 49) (v := 1) dX8_areParted_49 (by decide) ?_
      refine sp_goto (pc := 50) (tgt := 54) dX8_areParted_50 (by decide) ?_
      refine sp_istore_n (pc := 54) (lv' := [(3, .int 1), (0, .ref v0), (1, .int v1), (2, .int v2), (4, .int v4)]) dX8_areParted_54 (by decide) rfl ?_
      refine sp_iinc (pc := 55) (v := v4 + 1) (lv' := [(4, .int (v4 + 1)), (3, .int 1), (0, .ref v0), (1, .int v1), (2, .int v2)]) dX8_areParted_55 4 rfl rfl (by decide) rfl ?_
      refine sp_goto (pc := 58) (tgt := 5) dX8_areParted_58 (by decide) ?_
      exact sp_sub [2, 3, 4, 1, 0] rfl (hk5 _ _ _ hf)
    · rw [if_pos c4] at hf
      refine sp_aload_n (pc := 21) dX8_areParted_21 0 rfl ?_
      obtain ⟨x5, ex5, hf⟩ := ob hf
      refine sp_gR (pc := 22) fl_RX8_7 dX8_areParted_22 ex5 ?_
      refine sp_bipush (pc := 25) (v := 8) dX8_areParted_25 (by decide) ?_
      refine sp_iload (pc := 27) dX8_areParted_27 4 rfl ?_
      refine sp_iadd (pc := 29) dX8_areParted_29 ?_
      obtain ⟨x6, ex6, hf⟩ := ob hf
      refine sp_aI (pc := 30) dX8_areParted_30 ex6 ?_
      refine sp_iload_n (pc := 31) dX8_areParted_31 1 rfl ?_
      refine sp_icmp_lt (pc := 32) (tgt := 53) dX8_areParted_32 (by decide) (fun c7 => ?_) (fun c7 => ?_)
      · rw [if_pos c7] at hf
        refine sp_iconst (pc := 53) (v := 0) dX8_areParted_53 (by decide) ?_
        refine sp_istore_n (pc := 54) (lv' := [(3, .int 0), (0, .ref v0), (1, .int v1), (2, .int v2), (4, .int v4)]) dX8_areParted_54 (by decide) rfl ?_
        refine sp_iinc (pc := 55) (v := v4 + 1) (lv' := [(4, .int (v4 + 1)), (3, .int 0), (0, .ref v0), (1, .int v1), (2, .int v2)]) dX8_areParted_55 4 rfl rfl (by decide) rfl ?_
        refine sp_goto (pc := 58) (tgt := 5) dX8_areParted_58 (by decide) ?_
        exact sp_sub [2, 3, 4, 1, 0] rfl (hk5 _ _ _ hf)
      · rw [if_neg c7] at hf
        refine sp_aload_n (pc := 35) dX8_areParted_35 0 rfl ?_
        obtain ⟨x8, ex8, hf⟩ := ob hf
        refine sp_gR (pc := 36) fl_RX8_7 dX8_areParted_36 ex8 ?_
        refine sp_bipush (pc := 39) (v := 8) dX8_areParted_39 (by decide) ?_
        refine sp_iload (pc := 41) dX8_areParted_41 4 rfl ?_
        refine sp_iadd (pc := 43) dX8_areParted_43 ?_
        obtain ⟨x9, ex9, hf⟩ := ob hf
        refine sp_aI (pc := 44) dX8_areParted_44 ex9 ?_
        refine sp_iload_n (pc := 45) dX8_areParted_45 2 rfl ?_
        refine sp_icmp_ge (pc := 46) (tgt := 53) dX8_areParted_46 (by decide) (fun c10 => ?_) (fun c10 => ?_)
        · rw [if_pos c10] at hf
          refine sp_iconst (pc := 53) (v := 0) dX8_areParted_53 (by decide) ?_
          refine sp_istore_n (pc := 54) (lv' := [(3, .int 0), (0, .ref v0), (1, .int v1), (2, .int v2), (4, .int v4)]) dX8_areParted_54 (by decide) rfl ?_
          refine sp_iinc (pc := 55) (v := v4 + 1) (lv' := [(4, .int (v4 + 1)), (3, .int 0), (0, .ref v0), (1, .int v1), (2, .int v2)]) dX8_areParted_55 4 rfl rfl (by decide) rfl ?_
          refine sp_goto (pc := 58) (tgt := 5) dX8_areParted_58 (by decide) ?_
          exact sp_sub [2, 3, 4, 1, 0] rfl (hk5 _ _ _ hf)
        · rw [if_neg c10] at hf
          refine sp_iconst (pc := 49) (v := 1) dX8_areParted_49 (by decide) ?_
          refine sp_goto (pc := 50) (tgt := 54) dX8_areParted_50 (by decide) ?_
          refine sp_istore_n (pc := 54) (lv' := [(3, .int 1), (0, .ref v0), (1, .int v1), (2, .int v2), (4, .int v4)]) dX8_areParted_54 (by decide) rfl ?_
          refine sp_iinc (pc := 55) (v := v4 + 1) (lv' := [(4, .int (v4 + 1)), (3, .int 1), (0, .ref v0), (1, .int v1), (2, .int v2)]) dX8_areParted_55 4 rfl rfl (by decide) rfl ?_
          refine sp_goto (pc := 58) (tgt := 5) dX8_areParted_58 (by decide) ?_
          exact sp_sub [2, 3, 4, 1, 0] rfl (hk5 _ _ _ hf)

theorem w_X8_areParted_5 {l : Launch} {X : SCR} {Q : PST} {bc bs : Nat} {res : Int32} {h : HP} (hQ : ∀ sz', Q (.inl (some (.int res))) h sz') {v0 : Nat} {v1 : Int32} {v2 : Int32} : ∀ (n : Nat) {v3 : Int32} {v4 : Int32} {sz : Nat}, b_X8_areParted_5 h v0 v1 v2 n v3 v4 = some res → SP l X M_X8_areParted 5 [(0, .ref v0), (1, .int v1), (2, .int v2), (3, .int v3), (4, .int v4)] [] h sz bc bs Q := by
  intro n
  induction n with
  | zero =>
    intro v3 v4 sz hf
    rw [b_X8_areParted_5] at hf
    cases hf
  | succ n ih =>
    intro v3 v4 sz hf
    rw [b_X8_areParted_5] at hf
    exact wc_X8_areParted_5 hQ (fun v3 v4 sz hf => ih hf) hf

theorem w_X8_areParted_0 {l : Launch} {X : SCR} {Q : PST} {bc bs : Nat} {res : Int32} {h : HP} (hQ : ∀ sz', Q (.inl (some (.int res))) h sz') {v0 : Nat} {v1 : Int32} {v2 : Int32} {sz : Nat} (hf : b_X8_areParted_0 h v0 v1 v2  = some res) : SP l X M_X8_areParted 0 [(0, .ref v0), (1, .int v1), (2, .int v2)] [] h sz bc bs Q := by
  rw [b_X8_areParted_0] at hf
  refine sp_iconst (pc := 0) (v := 0) dX8_areParted_0 (by decide) ?_
  refine sp_istore_n (pc := 1) (lv' := [(3, .int 0), (0, .ref v0), (1, .int v1), (2, .int v2)]) dX8_areParted_1 (by decide) rfl ?_
  refine sp_iconst (pc := 2) (v := 0) dX8_areParted_2 (by decide) ?_
  refine sp_istore (pc := 3) (lv' := [(4, .int 0), (3, .int 0), (0, .ref v0), (1, .int v1), (2, .int v2)]) dX8_areParted_3 (by decide) rfl ?_
  exact sp_sub [2, 3, 4, 1, 0] rfl (w_X8_areParted_5 hQ FU hf)

theorem o_X8_areParted {h : HP} {v0 : Nat} {v1 : Int32} {v2 : Int32} {res : Int32} (hf : f_X8_areParted h v0 v1 v2 = some res) : ∃ fs, h v0 = some (.inr (8, fs)) := by
  obtain ⟨u, eu, -⟩ := ob hf
  exact kO_spec eu

theorem m_X8_areParted {l : Launch} {Q : PST} {h : HP} {v0 : Nat} {v1 : Int32} {v2 : Int32} {sz : Nat} {res : Int32} (hQ : ∀ sz', Q (.inl (some (.int res))) h sz') (hf : f_X8_areParted h v0 v1 v2 = some res) : MM l M_X8_areParted [.ref v0, .int v1, .int v2] h sz Q := by
  obtain ⟨u, eu, hf⟩ := ob hf
  exact MM_of wok_X8_areParted (by decide +kernel) (Nat.le_of_ble_eq_true rfl) ((w_X8_areParted_0 hQ hf))

theorem dX8_isCovered_0 : decode (mB M_X8_isCovered) 0 = .ok (.iconst 0, 1) := by decide +kernel
theorem dX8_isCovered_1 : decode (mB M_X8_isCovered) 1 = .ok (.istore 6, 2) := by decide +kernel
theorem dX8_isCovered_3 : decode (mB M_X8_isCovered) 3 = .ok (.iload_n 3, 1) := by decide +kernel
theorem dX8_isCovered_4 : decode (mB M_X8_isCovered) 4 = .ok (.istore 7, 2) := by decide +kernel
theorem dX8_isCovered_6 : decode (mB M_X8_isCovered) 6 = .ok (.iload 7, 2) := by decide +kernel
theorem dX8_isCovered_8 : decode (mB M_X8_isCovered) 8 = .ok (.iload 4, 2) := by decide +kernel
theorem dX8_isCovered_10 : decode (mB M_X8_isCovered) 10 = .ok (.if_icmp .ge 109, 3) := by decide +kernel
theorem dX8_isCovered_13 : decode (mB M_X8_isCovered) 13 = .ok (.aload_n 0, 1) := by decide +kernel
theorem dX8_isCovered_14 : decode (mB M_X8_isCovered) 14 = .ok (.getfield 7, 3) := by decide +kernel
theorem dX8_isCovered_17 : decode (mB M_X8_isCovered) 17 = .ok (.iload 7, 2) := by decide +kernel
theorem dX8_isCovered_19 : decode (mB M_X8_isCovered) 19 = .ok (.iconst 0, 1) := by decide +kernel
theorem dX8_isCovered_20 : decode (mB M_X8_isCovered) 20 = .ok (.invokestatic 50, 3) := by decide +kernel
theorem dX8_isCovered_23 : decode (mB M_X8_isCovered) 23 = .ok (.iaload, 1) := by decide +kernel
theorem dX8_isCovered_24 : decode (mB M_X8_isCovered) 24 = .ok (.aload_n 0, 1) := by decide +kernel
theorem dX8_isCovered_25 : decode (mB M_X8_isCovered) 25 = .ok (.getfield 7, 3) := by decide +kernel
theorem dX8_isCovered_28 : decode (mB M_X8_isCovered) 28 = .ok (.iload_n 1, 1) := by decide +kernel
theorem dX8_isCovered_29 : decode (mB M_X8_isCovered) 29 = .ok (.iconst 0, 1) := by decide +kernel
theorem dX8_isCovered_30 : decode (mB M_X8_isCovered) 30 = .ok (.invokestatic 50, 3) := by decide +kernel
theorem dX8_isCovered_33 : decode (mB M_X8_isCovered) 33 = .ok (.iaload, 1) := by decide +kernel
theorem dX8_isCovered_34 : decode (mB M_X8_isCovered) 34 = .ok (.if_icmp .le 31, 3) := by decide +kernel
theorem dX8_isCovered_37 : decode (mB M_X8_isCovered) 37 = .ok (.aload_n 0, 1) := by decide +kernel
theorem dX8_isCovered_38 : decode (mB M_X8_isCovered) 38 = .ok (.iload 7, 2) := by decide +kernel
theorem dX8_isCovered_40 : decode (mB M_X8_isCovered) 40 = .ok (.iload_n 2, 1) := by decide +kernel
theorem dX8_isCovered_41 : decode (mB M_X8_isCovered) 41 = .ok (.invokevirtual 58, 3) := by decide +kernel
theorem dX8_isCovered_44 : decode (mB M_X8_isCovered) 44 = .ok (.ifCond .eq 21, 3) := by decide +kernel
theorem dX8_isCovered_47 : decode (mB M_X8_isCovered) 47 = .ok (.iload 5, 2) := by decide +kernel
theorem dX8_isCovered_49 : decode (mB M_X8_isCovered) 49 = .ok (.ifCond .eq 12, 3) := by decide +kernel
theorem dX8_isCovered_52 : decode (mB M_X8_isCovered) 52 = .ok (.aload_n 0, 1) := by decide +kernel
theorem dX8_isCovered_53 : decode (mB M_X8_isCovered) 53 = .ok (.iload 7, 2) := by decide +kernel
theorem dX8_isCovered_55 : decode (mB M_X8_isCovered) 55 = .ok (.invokevirtual 68, 3) := by decide +kernel
theorem dX8_isCovered_58 : decode (mB M_X8_isCovered) 58 = .ok (.ifCond .ne 7, 3) := by decide +kernel
theorem dX8_isCovered_61 : decode (mB M_X8_isCovered) 61 = .ok (.iconst 1, 1) := by decide +kernel
theorem dX8_isCovered_62 : decode (mB M_X8_isCovered) 62 = .ok (.goto 4, 3) := by decide +kernel
theorem dX8_isCovered_65 : decode (mB M_X8_isCovered) 65 = .ok (.iconst 0, 1) := by decide +kernel
theorem dX8_isCovered_66 : decode (mB M_X8_isCovered) 66 = .ok (.istore 8, 2) := by decide +kernel
theorem dX8_isCovered_68 : decode (mB M_X8_isCovered) 68 = .ok (.iload 6, 2) := by decide +kernel
theorem dX8_isCovered_70 : decode (mB M_X8_isCovered) 70 = .ok (.ifCond .ne 36, 3) := by decide +kernel
theorem dX8_isCovered_73 : decode (mB M_X8_isCovered) 73 = .ok (.iload 8, 2) := by decide +kernel
theorem dX8_isCovered_75 : decode (mB M_X8_isCovered) 75 = .ok (.ifCond .eq 35, 3) := by decide +kernel
theorem dX8_isCovered_78 : decode (mB M_X8_isCovered) 78 = .ok (.aload_n 0, 1) := by decide +kernel
theorem dX8_isCovered_79 : decode (mB M_X8_isCovered) 79 = .ok (.aload_n 0, 1) := by decide +kernel
theorem dX8_isCovered_80 : decode (mB M_X8_isCovered) 80 = .ok (.getfield 7, 3) := by decide +kernel
theorem dX8_isCovered_83 : decode (mB M_X8_isCovered) 83 = .ok (.iload_n 1, 1) := by decide +kernel
theorem dX8_isCovered_84 : decode (mB M_X8_isCovered) 84 = .ok (.iconst 0, 1) := by decide +kernel
theorem dX8_isCovered_85 : decode (mB M_X8_isCovered) 85 = .ok (.invokestatic 50, 3) := by decide +kernel
theorem dX8_isCovered_88 : decode (mB M_X8_isCovered) 88 = .ok (.iaload, 1) := by decide +kernel
theorem dX8_isCovered_89 : decode (mB M_X8_isCovered) 89 = .ok (.aload_n 0, 1) := by decide +kernel
theorem dX8_isCovered_90 : decode (mB M_X8_isCovered) 90 = .ok (.getfield 7, 3) := by decide +kernel
theorem dX8_isCovered_93 : decode (mB M_X8_isCovered) 93 = .ok (.iload 7, 2) := by decide +kernel
theorem dX8_isCovered_95 : decode (mB M_X8_isCovered) 95 = .ok (.iconst 0, 1) := by decide +kernel
theorem dX8_isCovered_96 : decode (mB M_X8_isCovered) 96 = .ok (.invokestatic 50, 3) := by decide +kernel
theorem dX8_isCovered_99 : decode (mB M_X8_isCovered) 99 = .ok (.iaload, 1) := by decide +kernel
theorem dX8_isCovered_100 : decode (mB M_X8_isCovered) 100 = .ok (.invokevirtual 75, 3) := by decide +kernel
theorem dX8_isCovered_103 : decode (mB M_X8_isCovered) 103 = .ok (.ifCond .ne 7, 3) := by decide +kernel
theorem dX8_isCovered_106 : decode (mB M_X8_isCovered) 106 = .ok (.iconst 1, 1) := by decide +kernel
theorem dX8_isCovered_107 : decode (mB M_X8_isCovered) 107 = .ok (.goto 4, 3) := by decide +kernel
theorem dX8_isCovered_110 : decode (mB M_X8_isCovered) 110 = .ok (.iconst 0, 1) := by decide +kernel
theorem dX8_isCovered_111 : decode (mB M_X8_isCovered) 111 = .ok (.istore 6, 2) := by decide +kernel
theorem dX8_isCovered_113 : decode (mB M_X8_isCovered) 113 = .ok (.iinc 7 1, 3) := by decide +kernel
theorem dX8_isCovered_116 : decode (mB M_X8_isCovered) 116 = .ok (.goto (-110), 3) := by decide +kernel
theorem dX8_isCovered_119 : decode (mB M_X8_isCovered) 119 = .ok (.iload 6, 2) := by decide +kernel
theorem dX8_isCovered_121 : decode (mB M_X8_isCovered) 121 = .ok (.ireturn, 1) := by decide +kernel
def b_X8_isCovered_66 (h : HP) (v0 : Nat) (v1 : Int32) (v2 : Int32) (v4 : Int32) (v5 : Int32) (k6 : Int32 → Int32 → Option (Int32)) (v6 : Int32) (v7 : Int32) (s0 : Int32) : Option (Int32) :=
  if v6 = 0 then if s0 = 0 then k6 0 (v7 + 1) else (gR 8 1 h v0).bind fun x3 => (f_X8_of h v1 0).bind fun y4 => (aI h x3 y4).bind fun x5 => (gR 8 1 h v0).bind fun x6 => (f_X8_of h v7 0).bind fun y7 => (aI h x6 y7).bind fun x8 => (f_X8_areParted h v0 x5 x8).bind fun y9 => if y9 = 0 then k6 1 (v7 + 1) else k6 0 (v7 + 1) else k6 1 (v7 + 1)
def c_X8_isCovered_6 (h : HP) (v0 : Nat) (v1 : Int32) (v2 : Int32) (v4 : Int32) (v5 : Int32) (k6 : Int32 → Int32 → Option (Int32)) (v6 : Int32) (v7 : Int32) : Option (Int32) :=
  if v4 ≤ v7 then bz v6 else (gR 8 1 h v0).bind fun x2 => (f_X8_of h v7 0).bind fun y3 => (aI h x2 y3).bind fun x4 => (gR 8 1 h v0).bind fun x5 => (f_X8_of h v1 0).bind fun y6 => (aI h x5 y6).bind fun x7 => if x4 ≤ x7 then b_X8_isCovered_66 h v0 v1 v2 v4 v5 k6 v6 v7 0 else (f_X8_concerns h v0 v7 v2).bind fun y9 => if y9 = 0 then b_X8_isCovered_66 h v0 v1 v2 v4 v5 k6 v6 v7 0 else if v5 = 0 then b_X8_isCovered_66 h v0 v1 v2 v4 v5 k6 v6 v7 1 else (f_X8_isEntry h v0 v7).bind fun y12 => if y12 = 0 then b_X8_isCovered_66 h v0 v1 v2 v4 v5 k6 v6 v7 1 else b_X8_isCovered_66 h v0 v1 v2 v4 v5 k6 v6 v7 0
def b_X8_isCovered_6 (h : HP) (v0 : Nat) (v1 : Int32) (v2 : Int32) (v4 : Int32) (v5 : Int32) : Nat → Int32 → Int32 → Option (Int32)
  | 0, _, _ => none
  | n + 1, v6, v7 => c_X8_isCovered_6 h v0 v1 v2 v4 v5 (b_X8_isCovered_6 h v0 v1 v2 v4 v5 n) v6 v7
def b_X8_isCovered_0 (h : HP) (v0 : Nat) (v1 : Int32) (v2 : Int32) (v3 : Int32) (v4 : Int32) (v5 : Int32) : Option (Int32) :=
  b_X8_isCovered_6 h v0 v1 v2 v4 v5 FU 0 v3
def f_X8_isCovered (h : HP) (v0 : Nat) (v1 : Int32) (v2 : Int32) (v3 : Int32) (v4 : Int32) (v5 : Int32) : Option (Int32) := (kO 8 h v0).bind fun _ => b_X8_isCovered_0 h v0 v1 v2 v3 v4 v5
theorem w_X8_isCovered_66 {l : Launch} {X : SCR} {Q : PST} {bc bs : Nat} {res : Int32} {h : HP} (hQ : ∀ sz', Q (.inl (some (.int res))) h sz') {v0 : Nat} {v1 : Int32} {v2 : Int32} {v4 : Int32} {v5 : Int32} {k6 : Int32 → Int32 → Option (Int32)} (hk6 : ∀ (v6 : Int32) (v7 : Int32) (sz : Nat), k6 v6 v7 = some res → SP l X M_X8_isCovered 6 [(0, .ref v0), (1, .int v1), (2, .int v2), (4, .int v4), (5, .int v5), (6, .int v6), (7, .int v7)] [] h sz bc bs Q) {v6 : Int32} {v7 : Int32} {s0 : Int32} {sz : Nat} (hf : b_X8_isCovered_66 h v0 v1 v2 v4 v5 k6 v6 v7 s0 = some res) : SP l X M_X8_isCovered 66 [(0, .ref v0), (1, .int v1), (2, .int v2), (4, .int v4), (5, .int v5), (6, .int v6), (7, .int v7)] [.int s0] h sz bc bs Q := by
  rw [b_X8_isCovered_66] at hf
  refine sp_istore (pc := 66) (lv' := [(8, .int s0), (0, .ref v0), (1, .int v1), (2, .int v2), (4, .int v4), (5, .int v5), (6, .int v6), (7, .int v7)]) dX8_isCovered_66 (by decide) rfl ?_
  refine sp_iload (pc := 68) dX8_isCovered_68 6 rfl ?_
  refine sp_if_ne (pc := 70) (tgt := 106) dX8_isCovered_70 (by decide) (fun c1 => ?_) (fun c1 => ?_)
  · rw [if_neg c1] at hf
    refine sp_iconst (pc := 106) (v := 1) dX8_isCovered_106 (by decide) ?_
    refine sp_goto (pc := 107) (tgt := 111) dX8_isCovered_107 (by decide) ?_
    refine sp_istore (pc := 111) (lv' := [(6, .int 1), (8, .int s0), (0, .ref v0), (1, .int v1), (2, .int v2), (4, .int v4), (5, .int v5), (7, .int v7)]) dX8_isCovered_111 (by decide) rfl ?_
    refine sp_iinc (pc := 113) (v := v7 + 1) (lv' := [(7, .int (v7 + 1)), (6, .int 1), (8, .int s0), (0, .ref v0), (1, .int v1), (2, .int v2), (4, .int v4), (5, .int v5)]) dX8_isCovered_113 7 rfl rfl (by decide) rfl ?_
    refine sp_goto (pc := 116) (tgt := 6) dX8_isCovered_116 (by decide) ?_
    exact sp_sub [3, 4, 5, 6, 7, 1, 0] rfl (hk6 _ _ _ hf)
  · rw [if_pos c1] at hf
    refine sp_iload (pc := 73) dX8_isCovered_73 0 rfl ?_
    refine sp_if_eq (pc := 75) (tgt := 110) dX8_isCovered_75 (by decide) (fun c2 => ?_) (fun c2 => ?_)
    · rw [if_pos c2] at hf
      refine sp_iconst (pc := 110) (v := 0) dX8_isCovered_110 (by decide) ?_
      refine sp_istore (pc := 111) (lv' := [(6, .int 0), (8, .int s0), (0, .ref v0), (1, .int v1), (2, .int v2), (4, .int v4), (5, .int v5), (7, .int v7)]) dX8_isCovered_111 (by decide) rfl ?_
      refine sp_iinc (pc := 113) (v := v7 + 1) (lv' := [(7, .int (v7 + 1)), (6, .int 0), (8, .int s0), (0, .ref v0), (1, .int v1), (2, .int v2), (4, .int v4), (5, .int v5)]) dX8_isCovered_113 7 rfl rfl (by decide) rfl ?_
      refine sp_goto (pc := 116) (tgt := 6) dX8_isCovered_116 (by decide) ?_
      exact sp_sub [3, 4, 5, 6, 7, 1, 0] rfl (hk6 _ _ _ hf)
    · rw [if_neg c2] at hf
      refine sp_aload_n (pc := 78) dX8_isCovered_78 1 rfl ?_
      refine sp_aload_n (pc := 79) dX8_isCovered_79 1 rfl ?_
      obtain ⟨x3, ex3, hf⟩ := ob hf
      refine sp_gR (pc := 80) fl_RX8_7 dX8_isCovered_80 ex3 ?_
      refine sp_iload_n (pc := 83) dX8_isCovered_83 2 rfl ?_
      refine sp_iconst (pc := 84) (v := 0) dX8_isCovered_84 (by decide) ?_
      obtain ⟨y4, ey4, hf⟩ := ob hf
      refine sp_callSi (pc := 85) (z := M_X8_of) (As := [.int v1, .int 0]) (bc2 := bc) (bs2 := bs) (m_X8_of (Q := _) (fun sz => ⟨y4, rfl, ?_⟩) ey4) rfl dX8_isCovered_85 rfl ck_X8_isCovered_50 (Nat.le_of_ble_eq_true rfl) rfl rfl rfl
      obtain ⟨x5, ex5, hf⟩ := ob hf
      refine sp_aI (pc := 88) dX8_isCovered_88 ex5 ?_
      refine sp_aload_n (pc := 89) dX8_isCovered_89 1 rfl ?_
      obtain ⟨x6, ex6, hf⟩ := ob hf
      refine sp_gR (pc := 90) fl_RX8_7 dX8_isCovered_90 ex6 ?_
      refine sp_iload (pc := 93) dX8_isCovered_93 7 rfl ?_
      refine sp_iconst (pc := 95) (v := 0) dX8_isCovered_95 (by decide) ?_
      obtain ⟨y7, ey7, hf⟩ := ob hf
      refine sp_callSi (pc := 96) (z := M_X8_of) (As := [.int v7, .int 0]) (bc2 := bc) (bs2 := bs) (m_X8_of (Q := _) (fun sz => ⟨y7, rfl, ?_⟩) ey7) rfl dX8_isCovered_96 rfl ck_X8_isCovered_50 (Nat.le_of_ble_eq_true rfl) rfl rfl rfl
      obtain ⟨x8, ex8, hf⟩ := ob hf
      refine sp_aI (pc := 99) dX8_isCovered_99 ex8 ?_
      obtain ⟨y9, ey9, hf⟩ := ob hf
      obtain ⟨fsy9, hoy9⟩ := o_X8_areParted ey9
      refine sp_callVi (pc := 100) (z := M_X8_areParted) (As := [.int x5, .int x8]) (b := v0) (bc2 := bc) (bs2 := bs) (m_X8_areParted (Q := _) (fun sz => ⟨y9, rfl, ?_⟩) ey9) rfl dX8_isCovered_100 hoy9 rfl rfl ck_X8_isCovered_75 (Nat.le_of_ble_eq_true rfl) rfl rfl rfl
      refine sp_if_ne (pc := 103) (tgt := 110) dX8_isCovered_103 (by decide) (fun c10 => ?_) (fun c10 => ?_)
      · rw [if_neg c10] at hf
        refine sp_iconst (pc := 110) (v := 0) dX8_isCovered_110 (by decide) ?_
        refine sp_istore (pc := 111) (lv' := [(6, .int 0), (8, .int s0), (0, .ref v0), (1, .int v1), (2, .int v2), (4, .int v4), (5, .int v5), (7, .int v7)]) dX8_isCovered_111 (by decide) rfl ?_
        refine sp_iinc (pc := 113) (v := v7 + 1) (lv' := [(7, .int (v7 + 1)), (6, .int 0), (8, .int s0), (0, .ref v0), (1, .int v1), (2, .int v2), (4, .int v4), (5, .int v5)]) dX8_isCovered_113 7 rfl rfl (by decide) rfl ?_
        refine sp_goto (pc := 116) (tgt := 6) dX8_isCovered_116 (by decide) ?_
        exact sp_sub [3, 4, 5, 6, 7, 1, 0] rfl (hk6 _ _ _ hf)
      · rw [if_pos c10] at hf
        refine sp_iconst (pc := 106) (v := 1) dX8_isCovered_106 (by decide) ?_
        refine sp_goto (pc := 107) (tgt := 111) dX8_isCovered_107 (by decide) ?_
        refine sp_istore (pc := 111) (lv' := [(6, .int 1), (8, .int s0), (0, .ref v0), (1, .int v1), (2, .int v2), (4, .int v4), (5, .int v5), (7, .int v7)]) dX8_isCovered_111 (by decide) rfl ?_
        refine sp_iinc (pc := 113) (v := v7 + 1) (lv' := [(7, .int (v7 + 1)), (6, .int 1), (8, .int s0), (0, .ref v0), (1, .int v1), (2, .int v2), (4, .int v4), (5, .int v5)]) dX8_isCovered_113 7 rfl rfl (by decide) rfl ?_
        refine sp_goto (pc := 116) (tgt := 6) dX8_isCovered_116 (by decide) ?_
        exact sp_sub [3, 4, 5, 6, 7, 1, 0] rfl (hk6 _ _ _ hf)

theorem wc_X8_isCovered_6 {l : Launch} {X : SCR} {Q : PST} {bc bs : Nat} {res : Int32} {h : HP} (hQ : ∀ sz', Q (.inl (some (.int res))) h sz') {v0 : Nat} {v1 : Int32} {v2 : Int32} {v4 : Int32} {v5 : Int32} {k6 : Int32 → Int32 → Option (Int32)} (hk6 : ∀ (v6 : Int32) (v7 : Int32) (sz : Nat), k6 v6 v7 = some res → SP l X M_X8_isCovered 6 [(0, .ref v0), (1, .int v1), (2, .int v2), (4, .int v4), (5, .int v5), (6, .int v6), (7, .int v7)] [] h sz bc bs Q) {v6 : Int32} {v7 : Int32} {sz : Nat} (hf : c_X8_isCovered_6 h v0 v1 v2 v4 v5 k6 v6 v7 = some res) : SP l X M_X8_isCovered 6 [(0, .ref v0), (1, .int v1), (2, .int v2), (4, .int v4), (5, .int v5), (6, .int v6), (7, .int v7)] [] h sz bc bs Q := by
  rw [c_X8_isCovered_6] at hf
  refine sp_iload (pc := 6) dX8_isCovered_6 6 rfl ?_
  refine sp_iload (pc := 8) dX8_isCovered_8 3 rfl ?_
  refine sp_icmp_ge (pc := 10) (tgt := 119) dX8_isCovered_10 (by decide) (fun c1 => ?_) (fun c1 => ?_)
  · rw [if_pos c1] at hf
    refine sp_iload (pc := 119) dX8_isCovered_119 5 rfl ?_
    exact sp_iretZ (pc := 121) dX8_isCovered_121 rfl hf (hQ _)
  · rw [if_neg c1] at hf
    refine sp_aload_n (pc := 13) dX8_isCovered_13 0 rfl ?_
    obtain ⟨x2, ex2, hf⟩ := ob hf
    refine sp_gR (pc := 14) fl_RX8_7 dX8_isCovered_14 ex2 ?_
    refine sp_iload (pc := 17) dX8_isCovered_17 6 rfl ?_
    refine sp_iconst (pc := 19) (v := 0) dX8_isCovered_19 (by decide) ?_
    obtain ⟨y3, ey3, hf⟩ := ob hf
    refine sp_callSi (pc := 20) (z := M_X8_of) (As := [.int v7, .int 0]) (bc2 := bc) (bs2 := bs) (m_X8_of (Q := _) (fun sz => ⟨y3, rfl, ?_⟩) ey3) rfl dX8_isCovered_20 rfl ck_X8_isCovered_50 (Nat.le_of_ble_eq_true rfl) rfl rfl rfl
    obtain ⟨x4, ex4, hf⟩ := ob hf
    refine sp_aI (pc := 23) dX8_isCovered_23 ex4 ?_
    refine sp_aload_n (pc := 24) dX8_isCovered_24 0 rfl ?_
    obtain ⟨x5, ex5, hf⟩ := ob hf
    refine sp_gR (pc := 25) fl_RX8_7 dX8_isCovered_25 ex5 ?_
    refine sp_iload_n (pc := 28) dX8_isCovered_28 1 rfl ?_
    refine sp_iconst (pc := 29) (v := 0) dX8_isCovered_29 (by decide) ?_
    obtain ⟨y6, ey6, hf⟩ := ob hf
    refine sp_callSi (pc := 30) (z := M_X8_of) (As := [.int v1, .int 0]) (bc2 := bc) (bs2 := bs) (m_X8_of (Q := _) (fun sz => ⟨y6, rfl, ?_⟩) ey6) rfl dX8_isCovered_30 rfl ck_X8_isCovered_50 (Nat.le_of_ble_eq_true rfl) rfl rfl rfl
    obtain ⟨x7, ex7, hf⟩ := ob hf
    refine sp_aI (pc := 33) dX8_isCovered_33 ex7 ?_
    refine sp_icmp_le (pc := 34) (tgt := 65) dX8_isCovered_34 (by decide) (fun c8 => ?_) (fun c8 => ?_)
    · rw [if_pos c8] at hf
      refine sp_iconst (pc := 65) (v := 0) dX8_isCovered_65 (by decide) ?_
      exact (w_X8_isCovered_66 hQ hk6 hf)
    · rw [if_neg c8] at hf
      refine sp_aload_n (pc := 37) dX8_isCovered_37 0 rfl ?_
      refine sp_iload (pc := 38) dX8_isCovered_38 6 rfl ?_
      refine sp_iload_n (pc := 40) dX8_isCovered_40 2 rfl ?_
      obtain ⟨y9, ey9, hf⟩ := ob hf
      obtain ⟨fsy9, hoy9⟩ := o_X8_concerns ey9
      refine sp_callVi (pc := 41) (z := M_X8_concerns) (As := [.int v7, .int v2]) (b := v0) (bc2 := bc) (bs2 := bs) (m_X8_concerns (Q := _) (fun sz => ⟨y9, rfl, ?_⟩) ey9) rfl dX8_isCovered_41 hoy9 rfl rfl ck_X8_isCovered_58 (Nat.le_of_ble_eq_true rfl) rfl rfl rfl
      refine sp_if_eq (pc := 44) (tgt := 65) dX8_isCovered_44 (by decide) (fun c10 => ?_) (fun c10 => ?_)
      · rw [if_pos c10] at hf
        refine sp_iconst (pc := 65) (v := 0) dX8_isCovered_65 (by decide) ?_
        exact (w_X8_isCovered_66 hQ hk6 hf)
      · rw [if_neg c10] at hf
        refine sp_iload (pc := 47) dX8_isCovered_47 4 rfl ?_
        refine sp_if_eq (pc := 49) (tgt := 61) dX8_isCovered_49 (by decide) (fun c11 => ?_) (fun c11 => ?_)
        · rw [if_pos c11] at hf
          refine sp_iconst (pc := 61) (v := 1) dX8_isCovered_61 (by decide) ?_
          refine sp_goto (pc := 62) (tgt := 66) dX8_isCovered_62 (by decide) ?_
          exact (w_X8_isCovered_66 hQ hk6 hf)
        · rw [if_neg c11] at hf
          refine sp_aload_n (pc := 52) dX8_isCovered_52 0 rfl ?_
          refine sp_iload (pc := 53) dX8_isCovered_53 6 rfl ?_
          obtain ⟨y12, ey12, hf⟩ := ob hf
          obtain ⟨fsy12, hoy12⟩ := o_X8_isEntry ey12
          refine sp_callVi (pc := 55) (z := M_X8_isEntry) (As := [.int v7]) (b := v0) (bc2 := bc) (bs2 := bs) (m_X8_isEntry (Q := _) (fun sz => ⟨y12, rfl, ?_⟩) ey12) rfl dX8_isCovered_55 hoy12 rfl rfl ck_X8_isCovered_68 (Nat.le_of_ble_eq_true rfl) rfl rfl rfl
          refine sp_if_ne (pc := 58) (tgt := 65) dX8_isCovered_58 (by decide) (fun c13 => ?_) (fun c13 => ?_)
          · rw [if_neg c13] at hf
            refine sp_iconst (pc := 65) (v := 0) dX8_isCovered_65 (by decide) ?_
            exact (w_X8_isCovered_66 hQ hk6 hf)
          · rw [if_pos c13] at hf
            refine sp_iconst (pc := 61) (v := 1) dX8_isCovered_61 (by decide) ?_
            refine sp_goto (pc := 62) (tgt := 66) dX8_isCovered_62 (by decide) ?_
            exact (w_X8_isCovered_66 hQ hk6 hf)

theorem w_X8_isCovered_6 {l : Launch} {X : SCR} {Q : PST} {bc bs : Nat} {res : Int32} {h : HP} (hQ : ∀ sz', Q (.inl (some (.int res))) h sz') {v0 : Nat} {v1 : Int32} {v2 : Int32} {v4 : Int32} {v5 : Int32} : ∀ (n : Nat) {v6 : Int32} {v7 : Int32} {sz : Nat}, b_X8_isCovered_6 h v0 v1 v2 v4 v5 n v6 v7 = some res → SP l X M_X8_isCovered 6 [(0, .ref v0), (1, .int v1), (2, .int v2), (4, .int v4), (5, .int v5), (6, .int v6), (7, .int v7)] [] h sz bc bs Q := by
  intro n
  induction n with
  | zero =>
    intro v6 v7 sz hf
    rw [b_X8_isCovered_6] at hf
    cases hf
  | succ n ih =>
    intro v6 v7 sz hf
    rw [b_X8_isCovered_6] at hf
    exact wc_X8_isCovered_6 hQ (fun v6 v7 sz hf => ih hf) hf

theorem w_X8_isCovered_0 {l : Launch} {X : SCR} {Q : PST} {bc bs : Nat} {res : Int32} {h : HP} (hQ : ∀ sz', Q (.inl (some (.int res))) h sz') {v0 : Nat} {v1 : Int32} {v2 : Int32} {v3 : Int32} {v4 : Int32} {v5 : Int32} {sz : Nat} (hf : b_X8_isCovered_0 h v0 v1 v2 v3 v4 v5  = some res) : SP l X M_X8_isCovered 0 [(0, .ref v0), (1, .int v1), (2, .int v2), (3, .int v3), (4, .int v4), (5, .int v5)] [] h sz bc bs Q := by
  rw [b_X8_isCovered_0] at hf
  refine sp_iconst (pc := 0) (v := 0) dX8_isCovered_0 (by decide) ?_
  refine sp_istore (pc := 1) (lv' := [(6, .int 0), (0, .ref v0), (1, .int v1), (2, .int v2), (3, .int v3), (4, .int v4), (5, .int v5)]) dX8_isCovered_1 (by decide) rfl ?_
  refine sp_iload_n (pc := 3) dX8_isCovered_3 4 rfl ?_
  refine sp_istore (pc := 4) (lv' := [(7, .int v3), (6, .int 0), (0, .ref v0), (1, .int v1), (2, .int v2), (3, .int v3), (4, .int v4), (5, .int v5)]) dX8_isCovered_4 (by decide) rfl ?_
  exact sp_sub [2, 3, 4, 6, 7, 1, 0] rfl (w_X8_isCovered_6 hQ FU hf)

theorem o_X8_isCovered {h : HP} {v0 : Nat} {v1 : Int32} {v2 : Int32} {v3 : Int32} {v4 : Int32} {v5 : Int32} {res : Int32} (hf : f_X8_isCovered h v0 v1 v2 v3 v4 v5 = some res) : ∃ fs, h v0 = some (.inr (8, fs)) := by
  obtain ⟨u, eu, -⟩ := ob hf
  exact kO_spec eu

theorem m_X8_isCovered {l : Launch} {Q : PST} {h : HP} {v0 : Nat} {v1 : Int32} {v2 : Int32} {v3 : Int32} {v4 : Int32} {v5 : Int32} {sz : Nat} {res : Int32} (hQ : ∀ sz', Q (.inl (some (.int res))) h sz') (hf : f_X8_isCovered h v0 v1 v2 v3 v4 v5 = some res) : MM l M_X8_isCovered [.ref v0, .int v1, .int v2, .int v3, .int v4, .int v5] h sz Q := by
  obtain ⟨u, eu, hf⟩ := ob hf
  exact MM_of wok_X8_isCovered (by decide +kernel) (Nat.le_of_ble_eq_true rfl) ((w_X8_isCovered_0 hQ hf))

theorem dX8_hasOlderEntry_0 : decode (mB M_X8_hasOlderEntry) 0 = .ok (.iconst 0, 1) := by decide +kernel
theorem dX8_hasOlderEntry_1 : decode (mB M_X8_hasOlderEntry) 1 = .ok (.istore 5, 2) := by decide +kernel
theorem dX8_hasOlderEntry_3 : decode (mB M_X8_hasOlderEntry) 3 = .ok (.iload_n 3, 1) := by decide +kernel
theorem dX8_hasOlderEntry_4 : decode (mB M_X8_hasOlderEntry) 4 = .ok (.istore 6, 2) := by decide +kernel
theorem dX8_hasOlderEntry_6 : decode (mB M_X8_hasOlderEntry) 6 = .ok (.iload 6, 2) := by decide +kernel
theorem dX8_hasOlderEntry_8 : decode (mB M_X8_hasOlderEntry) 8 = .ok (.iload 4, 2) := by decide +kernel
theorem dX8_hasOlderEntry_10 : decode (mB M_X8_hasOlderEntry) 10 = .ok (.if_icmp .ge 74, 3) := by decide +kernel
theorem dX8_hasOlderEntry_13 : decode (mB M_X8_hasOlderEntry) 13 = .ok (.iload 5, 2) := by decide +kernel
theorem dX8_hasOlderEntry_15 : decode (mB M_X8_hasOlderEntry) 15 = .ok (.ifCond .ne 56, 3) := by decide +kernel
theorem dX8_hasOlderEntry_18 : decode (mB M_X8_hasOlderEntry) 18 = .ok (.aload_n 0, 1) := by decide +kernel
theorem dX8_hasOlderEntry_19 : decode (mB M_X8_hasOlderEntry) 19 = .ok (.iload 6, 2) := by decide +kernel
theorem dX8_hasOlderEntry_21 : decode (mB M_X8_hasOlderEntry) 21 = .ok (.invokevirtual 68, 3) := by decide +kernel
theorem dX8_hasOlderEntry_24 : decode (mB M_X8_hasOlderEntry) 24 = .ok (.ifCond .eq 51, 3) := by decide +kernel
theorem dX8_hasOlderEntry_27 : decode (mB M_X8_hasOlderEntry) 27 = .ok (.aload_n 0, 1) := by decide +kernel
theorem dX8_hasOlderEntry_28 : decode (mB M_X8_hasOlderEntry) 28 = .ok (.getfield 32, 3) := by decide +kernel
theorem dX8_hasOlderEntry_31 : decode (mB M_X8_hasOlderEntry) 31 = .ok (.iload 6, 2) := by decide +kernel
theorem dX8_hasOlderEntry_33 : decode (mB M_X8_hasOlderEntry) 33 = .ok (.baload, 1) := by decide +kernel
theorem dX8_hasOlderEntry_34 : decode (mB M_X8_hasOlderEntry) 34 = .ok (.ifCond .ne 41, 3) := by decide +kernel
theorem dX8_hasOlderEntry_37 : decode (mB M_X8_hasOlderEntry) 37 = .ok (.aload_n 0, 1) := by decide +kernel
theorem dX8_hasOlderEntry_38 : decode (mB M_X8_hasOlderEntry) 38 = .ok (.getfield 7, 3) := by decide +kernel
theorem dX8_hasOlderEntry_41 : decode (mB M_X8_hasOlderEntry) 41 = .ok (.iload 6, 2) := by decide +kernel
theorem dX8_hasOlderEntry_43 : decode (mB M_X8_hasOlderEntry) 43 = .ok (.iconst 0, 1) := by decide +kernel
theorem dX8_hasOlderEntry_44 : decode (mB M_X8_hasOlderEntry) 44 = .ok (.invokestatic 50, 3) := by decide +kernel
theorem dX8_hasOlderEntry_47 : decode (mB M_X8_hasOlderEntry) 47 = .ok (.iaload, 1) := by decide +kernel
theorem dX8_hasOlderEntry_48 : decode (mB M_X8_hasOlderEntry) 48 = .ok (.aload_n 0, 1) := by decide +kernel
theorem dX8_hasOlderEntry_49 : decode (mB M_X8_hasOlderEntry) 49 = .ok (.getfield 7, 3) := by decide +kernel
theorem dX8_hasOlderEntry_52 : decode (mB M_X8_hasOlderEntry) 52 = .ok (.iload_n 1, 1) := by decide +kernel
theorem dX8_hasOlderEntry_53 : decode (mB M_X8_hasOlderEntry) 53 = .ok (.iconst 0, 1) := by decide +kernel
theorem dX8_hasOlderEntry_54 : decode (mB M_X8_hasOlderEntry) 54 = .ok (.invokestatic 50, 3) := by decide +kernel
theorem dX8_hasOlderEntry_57 : decode (mB M_X8_hasOlderEntry) 57 = .ok (.iaload, 1) := by decide +kernel
theorem dX8_hasOlderEntry_58 : decode (mB M_X8_hasOlderEntry) 58 = .ok (.if_icmp .ge 17, 3) := by decide +kernel
theorem dX8_hasOlderEntry_61 : decode (mB M_X8_hasOlderEntry) 61 = .ok (.aload_n 0, 1) := by decide +kernel
theorem dX8_hasOlderEntry_62 : decode (mB M_X8_hasOlderEntry) 62 = .ok (.iload 6, 2) := by decide +kernel
theorem dX8_hasOlderEntry_64 : decode (mB M_X8_hasOlderEntry) 64 = .ok (.iload_n 2, 1) := by decide +kernel
theorem dX8_hasOlderEntry_65 : decode (mB M_X8_hasOlderEntry) 65 = .ok (.invokevirtual 58, 3) := by decide +kernel
theorem dX8_hasOlderEntry_68 : decode (mB M_X8_hasOlderEntry) 68 = .ok (.ifCond .eq 7, 3) := by decide +kernel
theorem dX8_hasOlderEntry_71 : decode (mB M_X8_hasOlderEntry) 71 = .ok (.iconst 1, 1) := by decide +kernel
theorem dX8_hasOlderEntry_72 : decode (mB M_X8_hasOlderEntry) 72 = .ok (.goto 4, 3) := by decide +kernel
theorem dX8_hasOlderEntry_75 : decode (mB M_X8_hasOlderEntry) 75 = .ok (.iconst 0, 1) := by decide +kernel
theorem dX8_hasOlderEntry_76 : decode (mB M_X8_hasOlderEntry) 76 = .ok (.istore 5, 2) := by decide +kernel
theorem dX8_hasOlderEntry_78 : decode (mB M_X8_hasOlderEntry) 78 = .ok (.iinc 6 1, 3) := by decide +kernel
theorem dX8_hasOlderEntry_81 : decode (mB M_X8_hasOlderEntry) 81 = .ok (.goto (-75), 3) := by decide +kernel
theorem dX8_hasOlderEntry_84 : decode (mB M_X8_hasOlderEntry) 84 = .ok (.iload 5, 2) := by decide +kernel
theorem dX8_hasOlderEntry_86 : decode (mB M_X8_hasOlderEntry) 86 = .ok (.ireturn, 1) := by decide +kernel
def c_X8_hasOlderEntry_6 (h : HP) (v0 : Nat) (v1 : Int32) (v2 : Int32) (v4 : Int32) (k6 : Int32 → Int32 → Option (Int32)) (v5 : Int32) (v6 : Int32) : Option (Int32) :=
  if v4 ≤ v6 then bz v5 else if v5 = 0 then (f_X8_isEntry h v0 v6).bind fun y3 => if y3 = 0 then k6 0 (v6 + 1) else (gR 8 11 h v0).bind fun x5 => (aZ h x5 v6).bind fun x6 => if x6 = 0 then (gR 8 1 h v0).bind fun x8 => (f_X8_of h v6 0).bind fun y9 => (aI h x8 y9).bind fun x10 => (gR 8 1 h v0).bind fun x11 => (f_X8_of h v1 0).bind fun y12 => (aI h x11 y12).bind fun x13 => if x13 ≤ x10 then k6 0 (v6 + 1) else (f_X8_concerns h v0 v6 v2).bind fun y15 => if y15 = 0 then k6 0 (v6 + 1) else k6 1 (v6 + 1) else k6 0 (v6 + 1) else k6 1 (v6 + 1)
def b_X8_hasOlderEntry_6 (h : HP) (v0 : Nat) (v1 : Int32) (v2 : Int32) (v4 : Int32) : Nat → Int32 → Int32 → Option (Int32)
  | 0, _, _ => none
  | n + 1, v5, v6 => c_X8_hasOlderEntry_6 h v0 v1 v2 v4 (b_X8_hasOlderEntry_6 h v0 v1 v2 v4 n) v5 v6
def b_X8_hasOlderEntry_0 (h : HP) (v0 : Nat) (v1 : Int32) (v2 : Int32) (v3 : Int32) (v4 : Int32) : Option (Int32) :=
  b_X8_hasOlderEntry_6 h v0 v1 v2 v4 FU 0 v3
def f_X8_hasOlderEntry (h : HP) (v0 : Nat) (v1 : Int32) (v2 : Int32) (v3 : Int32) (v4 : Int32) : Option (Int32) := (kO 8 h v0).bind fun _ => b_X8_hasOlderEntry_0 h v0 v1 v2 v3 v4
theorem wc_X8_hasOlderEntry_6 {l : Launch} {X : SCR} {Q : PST} {bc bs : Nat} {res : Int32} {h : HP} (hQ : ∀ sz', Q (.inl (some (.int res))) h sz') {v0 : Nat} {v1 : Int32} {v2 : Int32} {v4 : Int32} {k6 : Int32 → Int32 → Option (Int32)} (hk6 : ∀ (v5 : Int32) (v6 : Int32) (sz : Nat), k6 v5 v6 = some res → SP l X M_X8_hasOlderEntry 6 [(0, .ref v0), (1, .int v1), (2, .int v2), (4, .int v4), (5, .int v5), (6, .int v6)] [] h sz bc bs Q) {v5 : Int32} {v6 : Int32} {sz : Nat} (hf : c_X8_hasOlderEntry_6 h v0 v1 v2 v4 k6 v5 v6 = some res) : SP l X M_X8_hasOlderEntry 6 [(0, .ref v0), (1, .int v1), (2, .int v2), (4, .int v4), (5, .int v5), (6, .int v6)] [] h sz bc bs Q := by
  rw [c_X8_hasOlderEntry_6] at hf
  refine sp_iload (pc := 6) dX8_hasOlderEntry_6 5 rfl ?_
  refine sp_iload (pc := 8) dX8_hasOlderEntry_8 3 rfl ?_
  refine sp_icmp_ge (pc := 10) (tgt := 84) dX8_hasOlderEntry_10 (by decide) (fun c1 => ?_) (fun c1 => ?_)
  · rw [if_pos c1] at hf
    refine sp_iload (pc := 84) dX8_hasOlderEntry_84 4 rfl ?_
    exact sp_iretZ (pc := 86) dX8_hasOlderEntry_86 rfl hf (hQ _)
  · rw [if_neg c1] at hf
    refine sp_iload (pc := 13) dX8_hasOlderEntry_13 4 rfl ?_
    refine sp_if_ne (pc := 15) (tgt := 71) dX8_hasOlderEntry_15 (by decide) (fun c2 => ?_) (fun c2 => ?_)
    · rw [if_neg c2] at hf
      refine sp_iconst (pc := 71) (v := 1) dX8_hasOlderEntry_71 (by decide) ?_
      refine sp_goto (pc := 72) (tgt := 76) dX8_hasOlderEntry_72 (by decide) ?_
      refine sp_istore (pc := 76) (lv' := [(5, .int 1), (0, .ref v0), (1, .int v1), (2, .int v2), (4, .int v4), (6, .int v6)]) dX8_hasOlderEntry_76 (by decide) rfl ?_
      refine sp_iinc (pc := 78) (v := v6 + 1) (lv' := [(6, .int (v6 + 1)), (5, .int 1), (0, .ref v0), (1, .int v1), (2, .int v2), (4, .int v4)]) dX8_hasOlderEntry_78 5 rfl rfl (by decide) rfl ?_
      refine sp_goto (pc := 81) (tgt := 6) dX8_hasOlderEntry_81 (by decide) ?_
      exact sp_sub [2, 3, 4, 5, 1, 0] rfl (hk6 _ _ _ hf)
    · rw [if_pos c2] at hf
      refine sp_aload_n (pc := 18) dX8_hasOlderEntry_18 0 rfl ?_
      refine sp_iload (pc := 19) dX8_hasOlderEntry_19 5 rfl ?_
      obtain ⟨y3, ey3, hf⟩ := ob hf
      obtain ⟨fsy3, hoy3⟩ := o_X8_isEntry ey3
      refine sp_callVi (pc := 21) (z := M_X8_isEntry) (As := [.int v6]) (b := v0) (bc2 := bc) (bs2 := bs) (m_X8_isEntry (Q := _) (fun sz => ⟨y3, rfl, ?_⟩) ey3) rfl dX8_hasOlderEntry_21 hoy3 rfl rfl ck_X8_hasOlderEntry_68 (Nat.le_of_ble_eq_true rfl) rfl rfl rfl
      refine sp_if_eq (pc := 24) (tgt := 75) dX8_hasOlderEntry_24 (by decide) (fun c4 => ?_) (fun c4 => ?_)
      · rw [if_pos c4] at hf
        refine sp_iconst (pc := 75) (v := 0) dX8_hasOlderEntry_75 (by decide) ?_
        refine sp_istore (pc := 76) (lv' := [(5, .int 0), (0, .ref v0), (1, .int v1), (2, .int v2), (4, .int v4), (6, .int v6)]) dX8_hasOlderEntry_76 (by decide) rfl ?_
        refine sp_iinc (pc := 78) (v := v6 + 1) (lv' := [(6, .int (v6 + 1)), (5, .int 0), (0, .ref v0), (1, .int v1), (2, .int v2), (4, .int v4)]) dX8_hasOlderEntry_78 5 rfl rfl (by decide) rfl ?_
        refine sp_goto (pc := 81) (tgt := 6) dX8_hasOlderEntry_81 (by decide) ?_
        exact sp_sub [2, 3, 4, 5, 1, 0] rfl (hk6 _ _ _ hf)
      · rw [if_neg c4] at hf
        refine sp_aload_n (pc := 27) dX8_hasOlderEntry_27 0 rfl ?_
        obtain ⟨x5, ex5, hf⟩ := ob hf
        refine sp_gR (pc := 28) fl_RX8_32 dX8_hasOlderEntry_28 ex5 ?_
        refine sp_iload (pc := 31) dX8_hasOlderEntry_31 5 rfl ?_
        obtain ⟨x6, ex6, hf⟩ := ob hf
        refine sp_aZ (pc := 33) dX8_hasOlderEntry_33 ex6 ?_
        refine sp_if_ne (pc := 34) (tgt := 75) dX8_hasOlderEntry_34 (by decide) (fun c7 => ?_) (fun c7 => ?_)
        · rw [if_neg c7] at hf
          refine sp_iconst (pc := 75) (v := 0) dX8_hasOlderEntry_75 (by decide) ?_
          refine sp_istore (pc := 76) (lv' := [(5, .int 0), (0, .ref v0), (1, .int v1), (2, .int v2), (4, .int v4), (6, .int v6)]) dX8_hasOlderEntry_76 (by decide) rfl ?_
          refine sp_iinc (pc := 78) (v := v6 + 1) (lv' := [(6, .int (v6 + 1)), (5, .int 0), (0, .ref v0), (1, .int v1), (2, .int v2), (4, .int v4)]) dX8_hasOlderEntry_78 5 rfl rfl (by decide) rfl ?_
          refine sp_goto (pc := 81) (tgt := 6) dX8_hasOlderEntry_81 (by decide) ?_
          exact sp_sub [2, 3, 4, 5, 1, 0] rfl (hk6 _ _ _ hf)
        · rw [if_pos c7] at hf
          refine sp_aload_n (pc := 37) dX8_hasOlderEntry_37 0 rfl ?_
          obtain ⟨x8, ex8, hf⟩ := ob hf
          refine sp_gR (pc := 38) fl_RX8_7 dX8_hasOlderEntry_38 ex8 ?_
          refine sp_iload (pc := 41) dX8_hasOlderEntry_41 5 rfl ?_
          refine sp_iconst (pc := 43) (v := 0) dX8_hasOlderEntry_43 (by decide) ?_
          obtain ⟨y9, ey9, hf⟩ := ob hf
          refine sp_callSi (pc := 44) (z := M_X8_of) (As := [.int v6, .int 0]) (bc2 := bc) (bs2 := bs) (m_X8_of (Q := _) (fun sz => ⟨y9, rfl, ?_⟩) ey9) rfl dX8_hasOlderEntry_44 rfl ck_X8_hasOlderEntry_50 (Nat.le_of_ble_eq_true rfl) rfl rfl rfl
          obtain ⟨x10, ex10, hf⟩ := ob hf
          refine sp_aI (pc := 47) dX8_hasOlderEntry_47 ex10 ?_
          refine sp_aload_n (pc := 48) dX8_hasOlderEntry_48 0 rfl ?_
          obtain ⟨x11, ex11, hf⟩ := ob hf
          refine sp_gR (pc := 49) fl_RX8_7 dX8_hasOlderEntry_49 ex11 ?_
          refine sp_iload_n (pc := 52) dX8_hasOlderEntry_52 1 rfl ?_
          refine sp_iconst (pc := 53) (v := 0) dX8_hasOlderEntry_53 (by decide) ?_
          obtain ⟨y12, ey12, hf⟩ := ob hf
          refine sp_callSi (pc := 54) (z := M_X8_of) (As := [.int v1, .int 0]) (bc2 := bc) (bs2 := bs) (m_X8_of (Q := _) (fun sz => ⟨y12, rfl, ?_⟩) ey12) rfl dX8_hasOlderEntry_54 rfl ck_X8_hasOlderEntry_50 (Nat.le_of_ble_eq_true rfl) rfl rfl rfl
          obtain ⟨x13, ex13, hf⟩ := ob hf
          refine sp_aI (pc := 57) dX8_hasOlderEntry_57 ex13 ?_
          refine sp_icmp_ge (pc := 58) (tgt := 75) dX8_hasOlderEntry_58 (by decide) (fun c14 => ?_) (fun c14 => ?_)
          · rw [if_pos c14] at hf
            refine sp_iconst (pc := 75) (v := 0) dX8_hasOlderEntry_75 (by decide) ?_
            refine sp_istore (pc := 76) (lv' := [(5, .int 0), (0, .ref v0), (1, .int v1), (2, .int v2), (4, .int v4), (6, .int v6)]) dX8_hasOlderEntry_76 (by decide) rfl ?_
            refine sp_iinc (pc := 78) (v := v6 + 1) (lv' := [(6, .int (v6 + 1)), (5, .int 0), (0, .ref v0), (1, .int v1), (2, .int v2), (4, .int v4)]) dX8_hasOlderEntry_78 5 rfl rfl (by decide) rfl ?_
            refine sp_goto (pc := 81) (tgt := 6) dX8_hasOlderEntry_81 (by decide) ?_
            exact sp_sub [2, 3, 4, 5, 1, 0] rfl (hk6 _ _ _ hf)
          · rw [if_neg c14] at hf
            refine sp_aload_n (pc := 61) dX8_hasOlderEntry_61 0 rfl ?_
            refine sp_iload (pc := 62) dX8_hasOlderEntry_62 5 rfl ?_
            refine sp_iload_n (pc := 64) dX8_hasOlderEntry_64 2 rfl ?_
            obtain ⟨y15, ey15, hf⟩ := ob hf
            obtain ⟨fsy15, hoy15⟩ := o_X8_concerns ey15
            refine sp_callVi (pc := 65) (z := M_X8_concerns) (As := [.int v6, .int v2]) (b := v0) (bc2 := bc) (bs2 := bs) (m_X8_concerns (Q := _) (fun sz => ⟨y15, rfl, ?_⟩) ey15) rfl dX8_hasOlderEntry_65 hoy15 rfl rfl ck_X8_hasOlderEntry_58 (Nat.le_of_ble_eq_true rfl) rfl rfl rfl
            refine sp_if_eq (pc := 68) (tgt := 75) dX8_hasOlderEntry_68 (by decide) (fun c16 => ?_) (fun c16 => ?_)
            · rw [if_pos c16] at hf
              refine sp_iconst (pc := 75) (v := 0) dX8_hasOlderEntry_75 (by decide) ?_
              refine sp_istore (pc := 76) (lv' := [(5, .int 0), (0, .ref v0), (1, .int v1), (2, .int v2), (4, .int v4), (6, .int v6)]) dX8_hasOlderEntry_76 (by decide) rfl ?_
              refine sp_iinc (pc := 78) (v := v6 + 1) (lv' := [(6, .int (v6 + 1)), (5, .int 0), (0, .ref v0), (1, .int v1), (2, .int v2), (4, .int v4)]) dX8_hasOlderEntry_78 5 rfl rfl (by decide) rfl ?_
              refine sp_goto (pc := 81) (tgt := 6) dX8_hasOlderEntry_81 (by decide) ?_
              exact sp_sub [2, 3, 4, 5, 1, 0] rfl (hk6 _ _ _ hf)
            · rw [if_neg c16] at hf
              refine sp_iconst (pc := 71) (v := 1) dX8_hasOlderEntry_71 (by decide) ?_
              refine sp_goto (pc := 72) (tgt := 76) dX8_hasOlderEntry_72 (by decide) ?_
              refine sp_istore (pc := 76) (lv' := [(5, .int 1), (0, .ref v0), (1, .int v1), (2, .int v2), (4, .int v4), (6, .int v6)]) dX8_hasOlderEntry_76 (by decide) rfl ?_
              refine sp_iinc (pc := 78) (v := v6 + 1) (lv' := [(6, .int (v6 + 1)), (5, .int 1), (0, .ref v0), (1, .int v1), (2, .int v2), (4, .int v4)]) dX8_hasOlderEntry_78 5 rfl rfl (by decide) rfl ?_
              refine sp_goto (pc := 81) (tgt := 6) dX8_hasOlderEntry_81 (by decide) ?_
              exact sp_sub [2, 3, 4, 5, 1, 0] rfl (hk6 _ _ _ hf)

theorem w_X8_hasOlderEntry_6 {l : Launch} {X : SCR} {Q : PST} {bc bs : Nat} {res : Int32} {h : HP} (hQ : ∀ sz', Q (.inl (some (.int res))) h sz') {v0 : Nat} {v1 : Int32} {v2 : Int32} {v4 : Int32} : ∀ (n : Nat) {v5 : Int32} {v6 : Int32} {sz : Nat}, b_X8_hasOlderEntry_6 h v0 v1 v2 v4 n v5 v6 = some res → SP l X M_X8_hasOlderEntry 6 [(0, .ref v0), (1, .int v1), (2, .int v2), (4, .int v4), (5, .int v5), (6, .int v6)] [] h sz bc bs Q := by
  intro n
  induction n with
  | zero =>
    intro v5 v6 sz hf
    rw [b_X8_hasOlderEntry_6] at hf
    cases hf
  | succ n ih =>
    intro v5 v6 sz hf
    rw [b_X8_hasOlderEntry_6] at hf
    exact wc_X8_hasOlderEntry_6 hQ (fun v5 v6 sz hf => ih hf) hf

theorem w_X8_hasOlderEntry_0 {l : Launch} {X : SCR} {Q : PST} {bc bs : Nat} {res : Int32} {h : HP} (hQ : ∀ sz', Q (.inl (some (.int res))) h sz') {v0 : Nat} {v1 : Int32} {v2 : Int32} {v3 : Int32} {v4 : Int32} {sz : Nat} (hf : b_X8_hasOlderEntry_0 h v0 v1 v2 v3 v4  = some res) : SP l X M_X8_hasOlderEntry 0 [(0, .ref v0), (1, .int v1), (2, .int v2), (3, .int v3), (4, .int v4)] [] h sz bc bs Q := by
  rw [b_X8_hasOlderEntry_0] at hf
  refine sp_iconst (pc := 0) (v := 0) dX8_hasOlderEntry_0 (by decide) ?_
  refine sp_istore (pc := 1) (lv' := [(5, .int 0), (0, .ref v0), (1, .int v1), (2, .int v2), (3, .int v3), (4, .int v4)]) dX8_hasOlderEntry_1 (by decide) rfl ?_
  refine sp_iload_n (pc := 3) dX8_hasOlderEntry_3 4 rfl ?_
  refine sp_istore (pc := 4) (lv' := [(6, .int v3), (5, .int 0), (0, .ref v0), (1, .int v1), (2, .int v2), (3, .int v3), (4, .int v4)]) dX8_hasOlderEntry_4 (by decide) rfl ?_
  exact sp_sub [2, 3, 4, 6, 1, 0] rfl (w_X8_hasOlderEntry_6 hQ FU hf)

theorem o_X8_hasOlderEntry {h : HP} {v0 : Nat} {v1 : Int32} {v2 : Int32} {v3 : Int32} {v4 : Int32} {res : Int32} (hf : f_X8_hasOlderEntry h v0 v1 v2 v3 v4 = some res) : ∃ fs, h v0 = some (.inr (8, fs)) := by
  obtain ⟨u, eu, -⟩ := ob hf
  exact kO_spec eu

theorem m_X8_hasOlderEntry {l : Launch} {Q : PST} {h : HP} {v0 : Nat} {v1 : Int32} {v2 : Int32} {v3 : Int32} {v4 : Int32} {sz : Nat} {res : Int32} (hQ : ∀ sz', Q (.inl (some (.int res))) h sz') (hf : f_X8_hasOlderEntry h v0 v1 v2 v3 v4 = some res) : MM l M_X8_hasOlderEntry [.ref v0, .int v1, .int v2, .int v3, .int v4] h sz Q := by
  obtain ⟨u, eu, hf⟩ := ob hf
  exact MM_of wok_X8_hasOlderEntry (by decide +kernel) (Nat.le_of_ble_eq_true rfl) ((w_X8_hasOlderEntry_0 hQ hf))

theorem dX8_leave_0 : decode (mB M_X8_leave) 0 = .ok (.aload_n 0, 1) := by decide +kernel
theorem dX8_leave_1 : decode (mB M_X8_leave) 1 = .ok (.getfield 29, 3) := by decide +kernel
theorem dX8_leave_4 : decode (mB M_X8_leave) 4 = .ok (.iconst 4, 1) := by decide +kernel
theorem dX8_leave_5 : decode (mB M_X8_leave) 5 = .ok (.aload_n 0, 1) := by decide +kernel
theorem dX8_leave_6 : decode (mB M_X8_leave) 6 = .ok (.getfield 78, 3) := by decide +kernel
theorem dX8_leave_9 : decode (mB M_X8_leave) 9 = .ok (.imul, 1) := by decide +kernel
theorem dX8_leave_10 : decode (mB M_X8_leave) 10 = .ok (.aload_n 0, 1) := by decide +kernel
theorem dX8_leave_11 : decode (mB M_X8_leave) 11 = .ok (.getfield 7, 3) := by decide +kernel
theorem dX8_leave_14 : decode (mB M_X8_leave) 14 = .ok (.iload_n 1, 1) := by decide +kernel
theorem dX8_leave_15 : decode (mB M_X8_leave) 15 = .ok (.iconst 0, 1) := by decide +kernel
theorem dX8_leave_16 : decode (mB M_X8_leave) 16 = .ok (.invokestatic 50, 3) := by decide +kernel
theorem dX8_leave_19 : decode (mB M_X8_leave) 19 = .ok (.iaload, 1) := by decide +kernel
theorem dX8_leave_20 : decode (mB M_X8_leave) 20 = .ok (.iastore, 1) := by decide +kernel
theorem dX8_leave_21 : decode (mB M_X8_leave) 21 = .ok (.aload_n 0, 1) := by decide +kernel
theorem dX8_leave_22 : decode (mB M_X8_leave) 22 = .ok (.getfield 29, 3) := by decide +kernel
theorem dX8_leave_25 : decode (mB M_X8_leave) 25 = .ok (.iconst 4, 1) := by decide +kernel
theorem dX8_leave_26 : decode (mB M_X8_leave) 26 = .ok (.aload_n 0, 1) := by decide +kernel
theorem dX8_leave_27 : decode (mB M_X8_leave) 27 = .ok (.getfield 78, 3) := by decide +kernel
theorem dX8_leave_30 : decode (mB M_X8_leave) 30 = .ok (.imul, 1) := by decide +kernel
theorem dX8_leave_31 : decode (mB M_X8_leave) 31 = .ok (.iconst 1, 1) := by decide +kernel
theorem dX8_leave_32 : decode (mB M_X8_leave) 32 = .ok (.iadd, 1) := by decide +kernel
theorem dX8_leave_33 : decode (mB M_X8_leave) 33 = .ok (.iload_n 2, 1) := by decide +kernel
theorem dX8_leave_34 : decode (mB M_X8_leave) 34 = .ok (.iastore, 1) := by decide +kernel
theorem dX8_leave_35 : decode (mB M_X8_leave) 35 = .ok (.aload_n 0, 1) := by decide +kernel
theorem dX8_leave_36 : decode (mB M_X8_leave) 36 = .ok (.getfield 29, 3) := by decide +kernel
theorem dX8_leave_39 : decode (mB M_X8_leave) 39 = .ok (.iconst 4, 1) := by decide +kernel
theorem dX8_leave_40 : decode (mB M_X8_leave) 40 = .ok (.aload_n 0, 1) := by decide +kernel
theorem dX8_leave_41 : decode (mB M_X8_leave) 41 = .ok (.getfield 78, 3) := by decide +kernel
theorem dX8_leave_44 : decode (mB M_X8_leave) 44 = .ok (.imul, 1) := by decide +kernel
theorem dX8_leave_45 : decode (mB M_X8_leave) 45 = .ok (.iconst 2, 1) := by decide +kernel
theorem dX8_leave_46 : decode (mB M_X8_leave) 46 = .ok (.iadd, 1) := by decide +kernel
theorem dX8_leave_47 : decode (mB M_X8_leave) 47 = .ok (.iload_n 3, 1) := by decide +kernel
theorem dX8_leave_48 : decode (mB M_X8_leave) 48 = .ok (.iastore, 1) := by decide +kernel
theorem dX8_leave_49 : decode (mB M_X8_leave) 49 = .ok (.aload_n 0, 1) := by decide +kernel
theorem dX8_leave_50 : decode (mB M_X8_leave) 50 = .ok (.getfield 29, 3) := by decide +kernel
theorem dX8_leave_53 : decode (mB M_X8_leave) 53 = .ok (.iconst 4, 1) := by decide +kernel
theorem dX8_leave_54 : decode (mB M_X8_leave) 54 = .ok (.aload_n 0, 1) := by decide +kernel
theorem dX8_leave_55 : decode (mB M_X8_leave) 55 = .ok (.getfield 78, 3) := by decide +kernel
theorem dX8_leave_58 : decode (mB M_X8_leave) 58 = .ok (.imul, 1) := by decide +kernel
theorem dX8_leave_59 : decode (mB M_X8_leave) 59 = .ok (.iconst 3, 1) := by decide +kernel
theorem dX8_leave_60 : decode (mB M_X8_leave) 60 = .ok (.iadd, 1) := by decide +kernel
theorem dX8_leave_61 : decode (mB M_X8_leave) 61 = .ok (.aload_n 0, 1) := by decide +kernel
theorem dX8_leave_62 : decode (mB M_X8_leave) 62 = .ok (.getfield 7, 3) := by decide +kernel
theorem dX8_leave_65 : decode (mB M_X8_leave) 65 = .ok (.iload_n 1, 1) := by decide +kernel
theorem dX8_leave_66 : decode (mB M_X8_leave) 66 = .ok (.iconst 3, 1) := by decide +kernel
theorem dX8_leave_67 : decode (mB M_X8_leave) 67 = .ok (.invokestatic 50, 3) := by decide +kernel
theorem dX8_leave_70 : decode (mB M_X8_leave) 70 = .ok (.iaload, 1) := by decide +kernel
theorem dX8_leave_71 : decode (mB M_X8_leave) 71 = .ok (.iastore, 1) := by decide +kernel
theorem dX8_leave_72 : decode (mB M_X8_leave) 72 = .ok (.aload_n 0, 1) := by decide +kernel
theorem dX8_leave_73 : decode (mB M_X8_leave) 73 = .ok (.dup, 1) := by decide +kernel
theorem dX8_leave_74 : decode (mB M_X8_leave) 74 = .ok (.getfield 78, 3) := by decide +kernel
theorem dX8_leave_77 : decode (mB M_X8_leave) 77 = .ok (.iconst 1, 1) := by decide +kernel
theorem dX8_leave_78 : decode (mB M_X8_leave) 78 = .ok (.iadd, 1) := by decide +kernel
theorem dX8_leave_79 : decode (mB M_X8_leave) 79 = .ok (.putfield 78, 3) := by decide +kernel
theorem dX8_leave_82 : decode (mB M_X8_leave) 82 = .ok (.return_, 1) := by decide +kernel
def b_X8_leave_0 (v0 : Nat) (v1 : Int32) (v2 : Int32) (v3 : Int32) (h : HP) : Option (HP) :=
  (gR 8 9 h v0).bind fun x1 => (gI 8 10 h v0).bind fun x2 => (gR 8 1 h v0).bind fun x3 => (f_X8_of h v1 0).bind fun y4 => (aI h x3 y4).bind fun x5 => (wI h x1 (4 * x2) x5).bind fun h6 => (gR 8 9 h6 v0).bind fun x7 => (gI 8 10 h6 v0).bind fun x8 => (wI h6 x7 ((4 * x8) + 1) v2).bind fun h9 => (gR 8 9 h9 v0).bind fun x10 => (gI 8 10 h9 v0).bind fun x11 => (wI h9 x10 ((4 * x11) + 2) v3).bind fun h12 => (gR 8 9 h12 v0).bind fun x13 => (gI 8 10 h12 v0).bind fun x14 => (gR 8 1 h12 v0).bind fun x15 => (f_X8_of h12 v1 3).bind fun y16 => (aI h12 x15 y16).bind fun x17 => (wI h12 x13 ((4 * x14) + 3) x17).bind fun h18 => (gI 8 10 h18 v0).bind fun x19 => (pI 8 10 h18 v0 (x19 + 1)).bind fun h20 => some h20
def f_X8_leave (h : HP) (v0 : Nat) (v1 : Int32) (v2 : Int32) (v3 : Int32) : Option (HP) := (kO 8 h v0).bind fun _ => b_X8_leave_0 v0 v1 v2 v3 h
theorem w_X8_leave_0 {l : Launch} {X : SCR} {Q : PST} {bc bs : Nat} {res : HP} {h : HP} (hQ : ∀ sz', Q (.inl none) res sz') {v0 : Nat} {v1 : Int32} {v2 : Int32} {v3 : Int32} {sz : Nat} (hf : b_X8_leave_0 v0 v1 v2 v3 h  = some res) : SP l X M_X8_leave 0 [(0, .ref v0), (1, .int v1), (2, .int v2), (3, .int v3)] [] h sz bc bs Q := by
  rw [b_X8_leave_0] at hf
  refine sp_aload_n (pc := 0) dX8_leave_0 0 rfl ?_
  obtain ⟨x1, ex1, hf⟩ := ob hf
  refine sp_gR (pc := 1) fl_RX8_29 dX8_leave_1 ex1 ?_
  refine sp_iconst (pc := 4) (v := 4) dX8_leave_4 (by decide) ?_
  refine sp_aload_n (pc := 5) dX8_leave_5 0 rfl ?_
  obtain ⟨x2, ex2, hf⟩ := ob hf
  refine sp_gI (pc := 6) fl_RX8_78 dX8_leave_6 ex2 ?_
  refine sp_imul (pc := 9) dX8_leave_9 ?_
  refine sp_aload_n (pc := 10) dX8_leave_10 0 rfl ?_
  obtain ⟨x3, ex3, hf⟩ := ob hf
  refine sp_gR (pc := 11) fl_RX8_7 dX8_leave_11 ex3 ?_
  refine sp_iload_n (pc := 14) dX8_leave_14 1 rfl ?_
  refine sp_iconst (pc := 15) (v := 0) dX8_leave_15 (by decide) ?_
  obtain ⟨y4, ey4, hf⟩ := ob hf
  refine sp_callSi (pc := 16) (z := M_X8_of) (As := [.int v1, .int 0]) (bc2 := bc) (bs2 := bs) (m_X8_of (Q := _) (fun sz => ⟨y4, rfl, ?_⟩) ey4) rfl dX8_leave_16 rfl ck_X8_leave_50 (Nat.le_of_ble_eq_true rfl) rfl rfl rfl
  obtain ⟨x5, ex5, hf⟩ := ob hf
  refine sp_aI (pc := 19) dX8_leave_19 ex5 ?_
  obtain ⟨h6, eh6, hf⟩ := ob hf
  refine sp_wI (pc := 20) dX8_leave_20 eh6 (fun sz => ?_)
  refine sp_aload_n (pc := 21) dX8_leave_21 0 rfl ?_
  obtain ⟨x7, ex7, hf⟩ := ob hf
  refine sp_gR (pc := 22) fl_RX8_29 dX8_leave_22 ex7 ?_
  refine sp_iconst (pc := 25) (v := 4) dX8_leave_25 (by decide) ?_
  refine sp_aload_n (pc := 26) dX8_leave_26 0 rfl ?_
  obtain ⟨x8, ex8, hf⟩ := ob hf
  refine sp_gI (pc := 27) fl_RX8_78 dX8_leave_27 ex8 ?_
  refine sp_imul (pc := 30) dX8_leave_30 ?_
  refine sp_iconst (pc := 31) (v := 1) dX8_leave_31 (by decide) ?_
  refine sp_iadd (pc := 32) dX8_leave_32 ?_
  refine sp_iload_n (pc := 33) dX8_leave_33 2 rfl ?_
  obtain ⟨h9, eh9, hf⟩ := ob hf
  refine sp_wI (pc := 34) dX8_leave_34 eh9 (fun sz => ?_)
  refine sp_aload_n (pc := 35) dX8_leave_35 0 rfl ?_
  obtain ⟨x10, ex10, hf⟩ := ob hf
  refine sp_gR (pc := 36) fl_RX8_29 dX8_leave_36 ex10 ?_
  refine sp_iconst (pc := 39) (v := 4) dX8_leave_39 (by decide) ?_
  refine sp_aload_n (pc := 40) dX8_leave_40 0 rfl ?_
  obtain ⟨x11, ex11, hf⟩ := ob hf
  refine sp_gI (pc := 41) fl_RX8_78 dX8_leave_41 ex11 ?_
  refine sp_imul (pc := 44) dX8_leave_44 ?_
  refine sp_iconst (pc := 45) (v := 2) dX8_leave_45 (by decide) ?_
  refine sp_iadd (pc := 46) dX8_leave_46 ?_
  refine sp_iload_n (pc := 47) dX8_leave_47 3 rfl ?_
  obtain ⟨h12, eh12, hf⟩ := ob hf
  refine sp_wI (pc := 48) dX8_leave_48 eh12 (fun sz => ?_)
  refine sp_aload_n (pc := 49) dX8_leave_49 0 rfl ?_
  obtain ⟨x13, ex13, hf⟩ := ob hf
  refine sp_gR (pc := 50) fl_RX8_29 dX8_leave_50 ex13 ?_
  refine sp_iconst (pc := 53) (v := 4) dX8_leave_53 (by decide) ?_
  refine sp_aload_n (pc := 54) dX8_leave_54 0 rfl ?_
  obtain ⟨x14, ex14, hf⟩ := ob hf
  refine sp_gI (pc := 55) fl_RX8_78 dX8_leave_55 ex14 ?_
  refine sp_imul (pc := 58) dX8_leave_58 ?_
  refine sp_iconst (pc := 59) (v := 3) dX8_leave_59 (by decide) ?_
  refine sp_iadd (pc := 60) dX8_leave_60 ?_
  refine sp_aload_n (pc := 61) dX8_leave_61 0 rfl ?_
  obtain ⟨x15, ex15, hf⟩ := ob hf
  refine sp_gR (pc := 62) fl_RX8_7 dX8_leave_62 ex15 ?_
  refine sp_iload_n (pc := 65) dX8_leave_65 1 rfl ?_
  refine sp_iconst (pc := 66) (v := 3) dX8_leave_66 (by decide) ?_
  obtain ⟨y16, ey16, hf⟩ := ob hf
  refine sp_callSi (pc := 67) (z := M_X8_of) (As := [.int v1, .int 3]) (bc2 := bc) (bs2 := bs) (m_X8_of (Q := _) (fun sz => ⟨y16, rfl, ?_⟩) ey16) rfl dX8_leave_67 rfl ck_X8_leave_50 (Nat.le_of_ble_eq_true rfl) rfl rfl rfl
  obtain ⟨x17, ex17, hf⟩ := ob hf
  refine sp_aI (pc := 70) dX8_leave_70 ex17 ?_
  obtain ⟨h18, eh18, hf⟩ := ob hf
  refine sp_wI (pc := 71) dX8_leave_71 eh18 (fun sz => ?_)
  refine sp_aload_n (pc := 72) dX8_leave_72 0 rfl ?_
  refine sp_dup (pc := 73) dX8_leave_73 rfl ?_
  obtain ⟨x19, ex19, hf⟩ := ob hf
  refine sp_gI (pc := 74) fl_RX8_78 dX8_leave_74 ex19 ?_
  refine sp_iconst (pc := 77) (v := 1) dX8_leave_77 (by decide) ?_
  refine sp_iadd (pc := 78) dX8_leave_78 ?_
  obtain ⟨h20, eh20, hf⟩ := ob hf
  refine sp_pI (pc := 79) pf_RX8_78 dX8_leave_79 eh20 (fun sz => ?_)
  obtain rfl := Option.some.inj hf
  exact sp_return (pc := 82) dX8_leave_82 rfl (hQ _)

theorem o_X8_leave {h : HP} {v0 : Nat} {v1 : Int32} {v2 : Int32} {v3 : Int32} {res : HP} (hf : f_X8_leave h v0 v1 v2 v3 = some res) : ∃ fs, h v0 = some (.inr (8, fs)) := by
  obtain ⟨u, eu, -⟩ := ob hf
  exact kO_spec eu

theorem m_X8_leave {l : Launch} {Q : PST} {h : HP} {v0 : Nat} {v1 : Int32} {v2 : Int32} {v3 : Int32} {sz : Nat} {res : HP} (hQ : ∀ sz', Q (.inl none) res sz') (hf : f_X8_leave h v0 v1 v2 v3 = some res) : MM l M_X8_leave [.ref v0, .int v1, .int v2, .int v3] h sz Q := by
  obtain ⟨u, eu, hf⟩ := ob hf
  exact MM_of wok_X8_leave (by decide +kernel) (Nat.le_of_ble_eq_true rfl) ((w_X8_leave_0 hQ hf))

theorem dX8_cut_0 : decode (mB M_X8_cut) 0 = .ok (.iconst (-1), 1) := by decide +kernel
theorem dX8_cut_1 : decode (mB M_X8_cut) 1 = .ok (.istore 5, 2) := by decide +kernel
theorem dX8_cut_3 : decode (mB M_X8_cut) 3 = .ok (.aload_n 0, 1) := by decide +kernel
theorem dX8_cut_4 : decode (mB M_X8_cut) 4 = .ok (.getfield 7, 3) := by decide +kernel
theorem dX8_cut_7 : decode (mB M_X8_cut) 7 = .ok (.iload_n 1, 1) := by decide +kernel
theorem dX8_cut_8 : decode (mB M_X8_cut) 8 = .ok (.iconst 1, 1) := by decide +kernel
theorem dX8_cut_9 : decode (mB M_X8_cut) 9 = .ok (.invokestatic 50, 3) := by decide +kernel
theorem dX8_cut_12 : decode (mB M_X8_cut) 12 = .ok (.iaload, 1) := by decide +kernel
theorem dX8_cut_13 : decode (mB M_X8_cut) 13 = .ok (.istore 6, 2) := by decide +kernel
theorem dX8_cut_15 : decode (mB M_X8_cut) 15 = .ok (.iload 6, 2) := by decide +kernel
theorem dX8_cut_17 : decode (mB M_X8_cut) 17 = .ok (.aload_n 0, 1) := by decide +kernel
theorem dX8_cut_18 : decode (mB M_X8_cut) 18 = .ok (.getfield 7, 3) := by decide +kernel
theorem dX8_cut_21 : decode (mB M_X8_cut) 21 = .ok (.iload_n 1, 1) := by decide +kernel
theorem dX8_cut_22 : decode (mB M_X8_cut) 22 = .ok (.iconst 2, 1) := by decide +kernel
theorem dX8_cut_23 : decode (mB M_X8_cut) 23 = .ok (.invokestatic 50, 3) := by decide +kernel
theorem dX8_cut_26 : decode (mB M_X8_cut) 26 = .ok (.iaload, 1) := by decide +kernel
theorem dX8_cut_27 : decode (mB M_X8_cut) 27 = .ok (.if_icmp .gt 89, 3) := by decide +kernel
theorem dX8_cut_30 : decode (mB M_X8_cut) 30 = .ok (.aload_n 0, 1) := by decide +kernel
theorem dX8_cut_31 : decode (mB M_X8_cut) 31 = .ok (.iload_n 1, 1) := by decide +kernel
theorem dX8_cut_32 : decode (mB M_X8_cut) 32 = .ok (.iload 6, 2) := by decide +kernel
theorem dX8_cut_34 : decode (mB M_X8_cut) 34 = .ok (.iload_n 2, 1) := by decide +kernel
theorem dX8_cut_35 : decode (mB M_X8_cut) 35 = .ok (.iload_n 3, 1) := by decide +kernel
theorem dX8_cut_36 : decode (mB M_X8_cut) 36 = .ok (.iconst 1, 1) := by decide +kernel
theorem dX8_cut_37 : decode (mB M_X8_cut) 37 = .ok (.invokevirtual 81, 3) := by decide +kernel
theorem dX8_cut_40 : decode (mB M_X8_cut) 40 = .ok (.ifCond .ne 24, 3) := by decide +kernel
theorem dX8_cut_43 : decode (mB M_X8_cut) 43 = .ok (.iload 4, 2) := by decide +kernel
theorem dX8_cut_45 : decode (mB M_X8_cut) 45 = .ok (.ifCond .eq 15, 3) := by decide +kernel
theorem dX8_cut_48 : decode (mB M_X8_cut) 48 = .ok (.aload_n 0, 1) := by decide +kernel
theorem dX8_cut_49 : decode (mB M_X8_cut) 49 = .ok (.iload_n 1, 1) := by decide +kernel
theorem dX8_cut_50 : decode (mB M_X8_cut) 50 = .ok (.iload 6, 2) := by decide +kernel
theorem dX8_cut_52 : decode (mB M_X8_cut) 52 = .ok (.iload_n 2, 1) := by decide +kernel
theorem dX8_cut_53 : decode (mB M_X8_cut) 53 = .ok (.iload_n 3, 1) := by decide +kernel
theorem dX8_cut_54 : decode (mB M_X8_cut) 54 = .ok (.invokevirtual 93, 3) := by decide +kernel
theorem dX8_cut_57 : decode (mB M_X8_cut) 57 = .ok (.ifCond .eq 7, 3) := by decide +kernel
theorem dX8_cut_60 : decode (mB M_X8_cut) 60 = .ok (.iconst 1, 1) := by decide +kernel
theorem dX8_cut_61 : decode (mB M_X8_cut) 61 = .ok (.goto 4, 3) := by decide +kernel
theorem dX8_cut_64 : decode (mB M_X8_cut) 64 = .ok (.iconst 0, 1) := by decide +kernel
theorem dX8_cut_65 : decode (mB M_X8_cut) 65 = .ok (.istore 7, 2) := by decide +kernel
theorem dX8_cut_67 : decode (mB M_X8_cut) 67 = .ok (.iload 7, 2) := by decide +kernel
theorem dX8_cut_69 : decode (mB M_X8_cut) 69 = .ok (.ifCond .eq 16, 3) := by decide +kernel
theorem dX8_cut_72 : decode (mB M_X8_cut) 72 = .ok (.iload 5, 2) := by decide +kernel
theorem dX8_cut_74 : decode (mB M_X8_cut) 74 = .ok (.iconst (-1), 1) := by decide +kernel
theorem dX8_cut_75 : decode (mB M_X8_cut) 75 = .ok (.if_icmp .ne 10, 3) := by decide +kernel
theorem dX8_cut_78 : decode (mB M_X8_cut) 78 = .ok (.iload 6, 2) := by decide +kernel
theorem dX8_cut_80 : decode (mB M_X8_cut) 80 = .ok (.istore 5, 2) := by decide +kernel
theorem dX8_cut_82 : decode (mB M_X8_cut) 82 = .ok (.goto 28, 3) := by decide +kernel
theorem dX8_cut_85 : decode (mB M_X8_cut) 85 = .ok (.iload 7, 2) := by decide +kernel
theorem dX8_cut_87 : decode (mB M_X8_cut) 87 = .ok (.ifCond .ne 23, 3) := by decide +kernel
theorem dX8_cut_90 : decode (mB M_X8_cut) 90 = .ok (.iload 5, 2) := by decide +kernel
theorem dX8_cut_92 : decode (mB M_X8_cut) 92 = .ok (.iconst (-1), 1) := by decide +kernel
theorem dX8_cut_93 : decode (mB M_X8_cut) 93 = .ok (.if_icmp .eq 17, 3) := by decide +kernel
theorem dX8_cut_96 : decode (mB M_X8_cut) 96 = .ok (.aload_n 0, 1) := by decide +kernel
theorem dX8_cut_97 : decode (mB M_X8_cut) 97 = .ok (.iload_n 1, 1) := by decide +kernel
theorem dX8_cut_98 : decode (mB M_X8_cut) 98 = .ok (.iload 5, 2) := by decide +kernel
theorem dX8_cut_100 : decode (mB M_X8_cut) 100 = .ok (.iload 6, 2) := by decide +kernel
theorem dX8_cut_102 : decode (mB M_X8_cut) 102 = .ok (.iconst 1, 1) := by decide +kernel
theorem dX8_cut_103 : decode (mB M_X8_cut) 103 = .ok (.isub, 1) := by decide +kernel
theorem dX8_cut_104 : decode (mB M_X8_cut) 104 = .ok (.invokevirtual 85, 3) := by decide +kernel
theorem dX8_cut_107 : decode (mB M_X8_cut) 107 = .ok (.iconst (-1), 1) := by decide +kernel
theorem dX8_cut_108 : decode (mB M_X8_cut) 108 = .ok (.istore 5, 2) := by decide +kernel
theorem dX8_cut_110 : decode (mB M_X8_cut) 110 = .ok (.iinc 6 1, 3) := by decide +kernel
theorem dX8_cut_113 : decode (mB M_X8_cut) 113 = .ok (.goto (-98), 3) := by decide +kernel
theorem dX8_cut_116 : decode (mB M_X8_cut) 116 = .ok (.iload 5, 2) := by decide +kernel
theorem dX8_cut_118 : decode (mB M_X8_cut) 118 = .ok (.iconst (-1), 1) := by decide +kernel
theorem dX8_cut_119 : decode (mB M_X8_cut) 119 = .ok (.if_icmp .eq 20, 3) := by decide +kernel
theorem dX8_cut_122 : decode (mB M_X8_cut) 122 = .ok (.aload_n 0, 1) := by decide +kernel
theorem dX8_cut_123 : decode (mB M_X8_cut) 123 = .ok (.iload_n 1, 1) := by decide +kernel
theorem dX8_cut_124 : decode (mB M_X8_cut) 124 = .ok (.iload 5, 2) := by decide +kernel
theorem dX8_cut_126 : decode (mB M_X8_cut) 126 = .ok (.aload_n 0, 1) := by decide +kernel
theorem dX8_cut_127 : decode (mB M_X8_cut) 127 = .ok (.getfield 7, 3) := by decide +kernel
theorem dX8_cut_130 : decode (mB M_X8_cut) 130 = .ok (.iload_n 1, 1) := by decide +kernel
theorem dX8_cut_131 : decode (mB M_X8_cut) 131 = .ok (.iconst 2, 1) := by decide +kernel
theorem dX8_cut_132 : decode (mB M_X8_cut) 132 = .ok (.invokestatic 50, 3) := by decide +kernel
theorem dX8_cut_135 : decode (mB M_X8_cut) 135 = .ok (.iaload, 1) := by decide +kernel
theorem dX8_cut_136 : decode (mB M_X8_cut) 136 = .ok (.invokevirtual 85, 3) := by decide +kernel
theorem dX8_cut_139 : decode (mB M_X8_cut) 139 = .ok (.return_, 1) := by decide +kernel
def b_X8_cut_85 (v0 : Nat) (v1 : Int32) (v2 : Int32) (v3 : Int32) (v4 : Int32) (k15 : HP → Int32 → Int32 → Option (HP)) (h : HP) (v5 : Int32) (v6 : Int32) (v7 : Int32) : Option (HP) :=
  if v7 = 0 then if v5 = (-1) then k15 h v5 (v6 + 1) else (f_X8_leave h v0 v1 v5 (v6 - 1)).bind fun y3 => k15 y3 ((-1)) (v6 + 1) else k15 h v5 (v6 + 1)
def b_X8_cut_65 (v0 : Nat) (v1 : Int32) (v2 : Int32) (v3 : Int32) (v4 : Int32) (k15 : HP → Int32 → Int32 → Option (HP)) (h : HP) (v5 : Int32) (v6 : Int32) (s0 : Int32) : Option (HP) :=
  if s0 = 0 then b_X8_cut_85 v0 v1 v2 v3 v4 k15 h v5 v6 s0 else if v5 = (-1) then k15 h v6 (v6 + 1) else b_X8_cut_85 v0 v1 v2 v3 v4 k15 h v5 v6 s0
def c_X8_cut_15 (v0 : Nat) (v1 : Int32) (v2 : Int32) (v3 : Int32) (v4 : Int32) (k15 : HP → Int32 → Int32 → Option (HP)) (h : HP) (v5 : Int32) (v6 : Int32) : Option (HP) :=
  (gR 8 1 h v0).bind fun x1 => (f_X8_of h v1 2).bind fun y2 => (aI h x1 y2).bind fun x3 => if x3 < v6 then if v5 = (-1) then some h else (gR 8 1 h v0).bind fun x6 => (f_X8_of h v1 2).bind fun y7 => (aI h x6 y7).bind fun x8 => (f_X8_leave h v0 v1 v5 x8).bind fun y9 => some y9 else (f_X8_isCovered h v0 v1 v6 v2 v3 1).bind fun y10 => if y10 = 0 then if v4 = 0 then b_X8_cut_65 v0 v1 v2 v3 v4 k15 h v5 v6 1 else (f_X8_hasOlderEntry h v0 v1 v6 v2 v3).bind fun y13 => if y13 = 0 then b_X8_cut_65 v0 v1 v2 v3 v4 k15 h v5 v6 0 else b_X8_cut_65 v0 v1 v2 v3 v4 k15 h v5 v6 1 else b_X8_cut_65 v0 v1 v2 v3 v4 k15 h v5 v6 0
def b_X8_cut_15 (v0 : Nat) (v1 : Int32) (v2 : Int32) (v3 : Int32) (v4 : Int32) : Nat → HP → Int32 → Int32 → Option (HP)
  | 0, _, _, _ => none
  | n + 1, h, v5, v6 => c_X8_cut_15 v0 v1 v2 v3 v4 (b_X8_cut_15 v0 v1 v2 v3 v4 n) h v5 v6
def b_X8_cut_0 (v0 : Nat) (v1 : Int32) (v2 : Int32) (v3 : Int32) (v4 : Int32) (h : HP) : Option (HP) :=
  (gR 8 1 h v0).bind fun x1 => (f_X8_of h v1 1).bind fun y2 => (aI h x1 y2).bind fun x3 => b_X8_cut_15 v0 v1 v2 v3 v4 FU h ((-1)) x3
def f_X8_cut (h : HP) (v0 : Nat) (v1 : Int32) (v2 : Int32) (v3 : Int32) (v4 : Int32) : Option (HP) := (kO 8 h v0).bind fun _ => b_X8_cut_0 v0 v1 v2 v3 v4 h
theorem w_X8_cut_85 {l : Launch} {X : SCR} {Q : PST} {bc bs : Nat} {res : HP} {h : HP} (hQ : ∀ sz', Q (.inl none) res sz') {v0 : Nat} {v1 : Int32} {v2 : Int32} {v3 : Int32} {v4 : Int32} {k15 : HP → Int32 → Int32 → Option (HP)} (hk15 : ∀ (h : HP) (v5 : Int32) (v6 : Int32) (sz : Nat), k15 h v5 v6 = some res → SP l X M_X8_cut 15 [(0, .ref v0), (1, .int v1), (2, .int v2), (3, .int v3), (4, .int v4), (5, .int v5), (6, .int v6)] [] h sz bc bs Q) {v5 : Int32} {v6 : Int32} {v7 : Int32} {sz : Nat} (hf : b_X8_cut_85 v0 v1 v2 v3 v4 k15 h v5 v6 v7 = some res) : SP l X M_X8_cut 85 [(0, .ref v0), (1, .int v1), (2, .int v2), (3, .int v3), (4, .int v4), (5, .int v5), (6, .int v6), (7, .int v7)] [] h sz bc bs Q := by
  rw [b_X8_cut_85] at hf
  refine sp_iload (pc := 85) dX8_cut_85 7 rfl ?_
  refine sp_if_ne (pc := 87) (tgt := 110) dX8_cut_87 (by decide) (fun c1 => ?_) (fun c1 => ?_)
  · rw [if_neg c1] at hf
    refine sp_iinc (pc := 110) (v := v6 + 1) (lv' := [(6, .int (v6 + 1)), (0, .ref v0), (1, .int v1), (2, .int v2), (3, .int v3), (4, .int v4), (5, .int v5), (7, .int v7)]) dX8_cut_110 6 rfl rfl (by decide) rfl ?_
    refine sp_goto (pc := 113) (tgt := 15) dX8_cut_113 (by decide) ?_
    exact sp_sub [1, 2, 3, 4, 5, 6, 0] rfl (hk15 _ _ _ _ hf)
  · rw [if_pos c1] at hf
    refine sp_iload (pc := 90) dX8_cut_90 5 rfl ?_
    refine sp_iconst (pc := 92) (v := (-1)) dX8_cut_92 (by decide) ?_
    refine sp_icmp_eq (pc := 93) (tgt := 110) dX8_cut_93 (by decide) (fun c2 => ?_) (fun c2 => ?_)
    · rw [if_pos c2] at hf
      refine sp_iinc (pc := 110) (v := v6 + 1) (lv' := [(6, .int (v6 + 1)), (0, .ref v0), (1, .int v1), (2, .int v2), (3, .int v3), (4, .int v4), (5, .int v5), (7, .int v7)]) dX8_cut_110 6 rfl rfl (by decide) rfl ?_
      refine sp_goto (pc := 113) (tgt := 15) dX8_cut_113 (by decide) ?_
      exact sp_sub [1, 2, 3, 4, 5, 6, 0] rfl (hk15 _ _ _ _ hf)
    · rw [if_neg c2] at hf
      refine sp_aload_n (pc := 96) dX8_cut_96 0 rfl ?_
      refine sp_iload_n (pc := 97) dX8_cut_97 1 rfl ?_
      refine sp_iload (pc := 98) dX8_cut_98 5 rfl ?_
      refine sp_iload (pc := 100) dX8_cut_100 6 rfl ?_
      refine sp_iconst (pc := 102) (v := 1) dX8_cut_102 (by decide) ?_
      refine sp_isub (pc := 103) dX8_cut_103 ?_
      obtain ⟨y3, ey3, hf⟩ := ob hf
      obtain ⟨fsy3, hoy3⟩ := o_X8_leave ey3
      refine sp_callVv (pc := 104) (z := M_X8_leave) (As := [.int v1, .int v5, .int (v6 - 1)]) (b := v0) (bc2 := bc) (bs2 := bs) (m_X8_leave (Q := _) (fun sz => ⟨(), rfl, ?_⟩) ey3) rfl dX8_cut_104 hoy3 rfl rfl ck_X8_cut_85 (Nat.le_of_ble_eq_true rfl) rfl rfl rfl
      refine sp_iconst (pc := 107) (v := (-1)) dX8_cut_107 (by decide) ?_
      refine sp_istore (pc := 108) (lv' := [(5, .int (-1)), (0, .ref v0), (1, .int v1), (2, .int v2), (3, .int v3), (4, .int v4), (6, .int v6), (7, .int v7)]) dX8_cut_108 (by decide) rfl ?_
      refine sp_iinc (pc := 110) (v := v6 + 1) (lv' := [(6, .int (v6 + 1)), (5, .int (-1)), (0, .ref v0), (1, .int v1), (2, .int v2), (3, .int v3), (4, .int v4), (7, .int v7)]) dX8_cut_110 6 rfl rfl (by decide) rfl ?_
      refine sp_goto (pc := 113) (tgt := 15) dX8_cut_113 (by decide) ?_
      exact sp_sub [2, 3, 4, 5, 6, 1, 0] rfl (hk15 _ _ _ _ hf)

theorem w_X8_cut_65 {l : Launch} {X : SCR} {Q : PST} {bc bs : Nat} {res : HP} {h : HP} (hQ : ∀ sz', Q (.inl none) res sz') {v0 : Nat} {v1 : Int32} {v2 : Int32} {v3 : Int32} {v4 : Int32} {k15 : HP → Int32 → Int32 → Option (HP)} (hk15 : ∀ (h : HP) (v5 : Int32) (v6 : Int32) (sz : Nat), k15 h v5 v6 = some res → SP l X M_X8_cut 15 [(0, .ref v0), (1, .int v1), (2, .int v2), (3, .int v3), (4, .int v4), (5, .int v5), (6, .int v6)] [] h sz bc bs Q) {v5 : Int32} {v6 : Int32} {s0 : Int32} {sz : Nat} (hf : b_X8_cut_65 v0 v1 v2 v3 v4 k15 h v5 v6 s0 = some res) : SP l X M_X8_cut 65 [(0, .ref v0), (1, .int v1), (2, .int v2), (3, .int v3), (4, .int v4), (5, .int v5), (6, .int v6)] [.int s0] h sz bc bs Q := by
  rw [b_X8_cut_65] at hf
  refine sp_istore (pc := 65) (lv' := [(7, .int s0), (0, .ref v0), (1, .int v1), (2, .int v2), (3, .int v3), (4, .int v4), (5, .int v5), (6, .int v6)]) dX8_cut_65 (by decide) rfl ?_
  refine sp_iload (pc := 67) dX8_cut_67 0 rfl ?_
  refine sp_if_eq (pc := 69) (tgt := 85) dX8_cut_69 (by decide) (fun c1 => ?_) (fun c1 => ?_)
  · rw [if_pos c1] at hf
    exact sp_sub [1, 2, 3, 4, 5, 6, 7, 0] rfl (w_X8_cut_85 hQ hk15 hf)
  · rw [if_neg c1] at hf
    refine sp_iload (pc := 72) dX8_cut_72 6 rfl ?_
    refine sp_iconst (pc := 74) (v := (-1)) dX8_cut_74 (by decide) ?_
    refine sp_icmp_ne (pc := 75) (tgt := 85) dX8_cut_75 (by decide) (fun c2 => ?_) (fun c2 => ?_)
    · rw [if_neg c2] at hf
      exact sp_sub [1, 2, 3, 4, 5, 6, 7, 0] rfl (w_X8_cut_85 hQ hk15 hf)
    · rw [if_pos c2] at hf
      refine sp_iload (pc := 78) dX8_cut_78 7 rfl ?_
      refine sp_istore (pc := 80) (lv' := [(5, .int v6), (7, .int s0), (0, .ref v0), (1, .int v1), (2, .int v2), (3, .int v3), (4, .int v4), (6, .int v6)]) dX8_cut_80 (by decide) rfl ?_
      refine sp_goto (pc := 82) (tgt := 110) dX8_cut_82 (by decide) ?_
      refine sp_iinc (pc := 110) (v := v6 + 1) (lv' := [(6, .int (v6 + 1)), (5, .int v6), (7, .int s0), (0, .ref v0), (1, .int v1), (2, .int v2), (3, .int v3), (4, .int v4)]) dX8_cut_110 7 rfl rfl (by decide) rfl ?_
      refine sp_goto (pc := 113) (tgt := 15) dX8_cut_113 (by decide) ?_
      exact sp_sub [3, 4, 5, 6, 7, 1, 0] rfl (hk15 _ _ _ _ hf)

theorem wc_X8_cut_15 {l : Launch} {X : SCR} {Q : PST} {bc bs : Nat} {res : HP} (hQ : ∀ sz', Q (.inl none) res sz') {v0 : Nat} {v1 : Int32} {v2 : Int32} {v3 : Int32} {v4 : Int32} {k15 : HP → Int32 → Int32 → Option (HP)} (hk15 : ∀ (h : HP) (v5 : Int32) (v6 : Int32) (sz : Nat), k15 h v5 v6 = some res → SP l X M_X8_cut 15 [(0, .ref v0), (1, .int v1), (2, .int v2), (3, .int v3), (4, .int v4), (5, .int v5), (6, .int v6)] [] h sz bc bs Q) {h : HP} {v5 : Int32} {v6 : Int32} {sz : Nat} (hf : c_X8_cut_15 v0 v1 v2 v3 v4 k15 h v5 v6 = some res) : SP l X M_X8_cut 15 [(0, .ref v0), (1, .int v1), (2, .int v2), (3, .int v3), (4, .int v4), (5, .int v5), (6, .int v6)] [] h sz bc bs Q := by
  rw [c_X8_cut_15] at hf
  refine sp_iload (pc := 15) dX8_cut_15 6 rfl ?_
  refine sp_aload_n (pc := 17) dX8_cut_17 0 rfl ?_
  obtain ⟨x1, ex1, hf⟩ := ob hf
  refine sp_gR (pc := 18) fl_RX8_7 dX8_cut_18 ex1 ?_
  refine sp_iload_n (pc := 21) dX8_cut_21 1 rfl ?_
  refine sp_iconst (pc := 22) (v := 2) dX8_cut_22 (by decide) ?_
  obtain ⟨y2, ey2, hf⟩ := ob hf
  refine sp_callSi (pc := 23) (z := M_X8_of) (As := [.int v1, .int 2]) (bc2 := bc) (bs2 := bs) (m_X8_of (Q := _) (fun sz => ⟨y2, rfl, ?_⟩) ey2) rfl dX8_cut_23 rfl ck_X8_cut_50 (Nat.le_of_ble_eq_true rfl) rfl rfl rfl
  obtain ⟨x3, ex3, hf⟩ := ob hf
  refine sp_aI (pc := 26) dX8_cut_26 ex3 ?_
  refine sp_icmp_gt (pc := 27) (tgt := 116) dX8_cut_27 (by decide) (fun c4 => ?_) (fun c4 => ?_)
  · rw [if_pos c4] at hf
    refine sp_iload (pc := 116) dX8_cut_116 5 rfl ?_
    refine sp_iconst (pc := 118) (v := (-1)) dX8_cut_118 (by decide) ?_
    refine sp_icmp_eq (pc := 119) (tgt := 139) dX8_cut_119 (by decide) (fun c5 => ?_) (fun c5 => ?_)
    · rw [if_pos c5] at hf
      obtain rfl := Option.some.inj hf
      exact sp_return (pc := 139) dX8_cut_139 rfl (hQ _)
    · rw [if_neg c5] at hf
      refine sp_aload_n (pc := 122) dX8_cut_122 0 rfl ?_
      refine sp_iload_n (pc := 123) dX8_cut_123 1 rfl ?_
      refine sp_iload (pc := 124) dX8_cut_124 5 rfl ?_
      refine sp_aload_n (pc := 126) dX8_cut_126 0 rfl ?_
      obtain ⟨x6, ex6, hf⟩ := ob hf
      refine sp_gR (pc := 127) fl_RX8_7 dX8_cut_127 ex6 ?_
      refine sp_iload_n (pc := 130) dX8_cut_130 1 rfl ?_
      refine sp_iconst (pc := 131) (v := 2) dX8_cut_131 (by decide) ?_
      obtain ⟨y7, ey7, hf⟩ := ob hf
      refine sp_callSi (pc := 132) (z := M_X8_of) (As := [.int v1, .int 2]) (bc2 := bc) (bs2 := bs) (m_X8_of (Q := _) (fun sz => ⟨y7, rfl, ?_⟩) ey7) rfl dX8_cut_132 rfl ck_X8_cut_50 (Nat.le_of_ble_eq_true rfl) rfl rfl rfl
      obtain ⟨x8, ex8, hf⟩ := ob hf
      refine sp_aI (pc := 135) dX8_cut_135 ex8 ?_
      obtain ⟨y9, ey9, hf⟩ := ob hf
      obtain ⟨fsy9, hoy9⟩ := o_X8_leave ey9
      refine sp_callVv (pc := 136) (z := M_X8_leave) (As := [.int v1, .int v5, .int x8]) (b := v0) (bc2 := bc) (bs2 := bs) (m_X8_leave (Q := _) (fun sz => ⟨(), rfl, ?_⟩) ey9) rfl dX8_cut_136 hoy9 rfl rfl ck_X8_cut_85 (Nat.le_of_ble_eq_true rfl) rfl rfl rfl
      obtain rfl := Option.some.inj hf
      exact sp_return (pc := 139) dX8_cut_139 rfl (hQ _)
  · rw [if_neg c4] at hf
    refine sp_aload_n (pc := 30) dX8_cut_30 0 rfl ?_
    refine sp_iload_n (pc := 31) dX8_cut_31 1 rfl ?_
    refine sp_iload (pc := 32) dX8_cut_32 6 rfl ?_
    refine sp_iload_n (pc := 34) dX8_cut_34 2 rfl ?_
    refine sp_iload_n (pc := 35) dX8_cut_35 3 rfl ?_
    refine sp_iconst (pc := 36) (v := 1) dX8_cut_36 (by decide) ?_
    obtain ⟨y10, ey10, hf⟩ := ob hf
    obtain ⟨fsy10, hoy10⟩ := o_X8_isCovered ey10
    refine sp_callVi (pc := 37) (z := M_X8_isCovered) (As := [.int v1, .int v6, .int v2, .int v3, .int 1]) (b := v0) (bc2 := bc) (bs2 := bs) (m_X8_isCovered (Q := _) (fun sz => ⟨y10, rfl, ?_⟩) ey10) rfl dX8_cut_37 hoy10 rfl rfl ck_X8_cut_81 (Nat.le_of_ble_eq_true rfl) rfl rfl rfl
    refine sp_if_ne (pc := 40) (tgt := 64) dX8_cut_40 (by decide) (fun c11 => ?_) (fun c11 => ?_)
    · rw [if_neg c11] at hf
      refine sp_iconst (pc := 64) (v := 0) dX8_cut_64 (by decide) ?_
      exact (w_X8_cut_65 hQ hk15 hf)
    · rw [if_pos c11] at hf
      refine sp_iload (pc := 43) dX8_cut_43 4 rfl ?_
      refine sp_if_eq (pc := 45) (tgt := 60) dX8_cut_45 (by decide) (fun c12 => ?_) (fun c12 => ?_)
      · rw [if_pos c12] at hf
        refine sp_iconst (pc := 60) (v := 1) dX8_cut_60 (by decide) ?_
        refine sp_goto (pc := 61) (tgt := 65) dX8_cut_61 (by decide) ?_
        exact (w_X8_cut_65 hQ hk15 hf)
      · rw [if_neg c12] at hf
        refine sp_aload_n (pc := 48) dX8_cut_48 0 rfl ?_
        refine sp_iload_n (pc := 49) dX8_cut_49 1 rfl ?_
        refine sp_iload (pc := 50) dX8_cut_50 6 rfl ?_
        refine sp_iload_n (pc := 52) dX8_cut_52 2 rfl ?_
        refine sp_iload_n (pc := 53) dX8_cut_53 3 rfl ?_
        obtain ⟨y13, ey13, hf⟩ := ob hf
        obtain ⟨fsy13, hoy13⟩ := o_X8_hasOlderEntry ey13
        refine sp_callVi (pc := 54) (z := M_X8_hasOlderEntry) (As := [.int v1, .int v6, .int v2, .int v3]) (b := v0) (bc2 := bc) (bs2 := bs) (m_X8_hasOlderEntry (Q := _) (fun sz => ⟨y13, rfl, ?_⟩) ey13) rfl dX8_cut_54 hoy13 rfl rfl ck_X8_cut_93 (Nat.le_of_ble_eq_true rfl) rfl rfl rfl
        refine sp_if_eq (pc := 57) (tgt := 64) dX8_cut_57 (by decide) (fun c14 => ?_) (fun c14 => ?_)
        · rw [if_pos c14] at hf
          refine sp_iconst (pc := 64) (v := 0) dX8_cut_64 (by decide) ?_
          exact (w_X8_cut_65 hQ hk15 hf)
        · rw [if_neg c14] at hf
          refine sp_iconst (pc := 60) (v := 1) dX8_cut_60 (by decide) ?_
          refine sp_goto (pc := 61) (tgt := 65) dX8_cut_61 (by decide) ?_
          exact (w_X8_cut_65 hQ hk15 hf)

theorem w_X8_cut_15 {l : Launch} {X : SCR} {Q : PST} {bc bs : Nat} {res : HP} (hQ : ∀ sz', Q (.inl none) res sz') {v0 : Nat} {v1 : Int32} {v2 : Int32} {v3 : Int32} {v4 : Int32} : ∀ (n : Nat) {h : HP} {v5 : Int32} {v6 : Int32} {sz : Nat}, b_X8_cut_15 v0 v1 v2 v3 v4 n h v5 v6 = some res → SP l X M_X8_cut 15 [(0, .ref v0), (1, .int v1), (2, .int v2), (3, .int v3), (4, .int v4), (5, .int v5), (6, .int v6)] [] h sz bc bs Q := by
  intro n
  induction n with
  | zero =>
    intro h v5 v6 sz hf
    rw [b_X8_cut_15] at hf
    cases hf
  | succ n ih =>
    intro h v5 v6 sz hf
    rw [b_X8_cut_15] at hf
    exact wc_X8_cut_15 hQ (fun h v5 v6 sz hf => ih hf) hf

theorem w_X8_cut_0 {l : Launch} {X : SCR} {Q : PST} {bc bs : Nat} {res : HP} {h : HP} (hQ : ∀ sz', Q (.inl none) res sz') {v0 : Nat} {v1 : Int32} {v2 : Int32} {v3 : Int32} {v4 : Int32} {sz : Nat} (hf : b_X8_cut_0 v0 v1 v2 v3 v4 h  = some res) : SP l X M_X8_cut 0 [(0, .ref v0), (1, .int v1), (2, .int v2), (3, .int v3), (4, .int v4)] [] h sz bc bs Q := by
  rw [b_X8_cut_0] at hf
  refine sp_iconst (pc := 0) (v := (-1)) dX8_cut_0 (by decide) ?_
  refine sp_istore (pc := 1) (lv' := [(5, .int (-1)), (0, .ref v0), (1, .int v1), (2, .int v2), (3, .int v3), (4, .int v4)]) dX8_cut_1 (by decide) rfl ?_
  refine sp_aload_n (pc := 3) dX8_cut_3 1 rfl ?_
  obtain ⟨x1, ex1, hf⟩ := ob hf
  refine sp_gR (pc := 4) fl_RX8_7 dX8_cut_4 ex1 ?_
  refine sp_iload_n (pc := 7) dX8_cut_7 2 rfl ?_
  refine sp_iconst (pc := 8) (v := 1) dX8_cut_8 (by decide) ?_
  obtain ⟨y2, ey2, hf⟩ := ob hf
  refine sp_callSi (pc := 9) (z := M_X8_of) (As := [.int v1, .int 1]) (bc2 := bc) (bs2 := bs) (m_X8_of (Q := _) (fun sz => ⟨y2, rfl, ?_⟩) ey2) rfl dX8_cut_9 rfl ck_X8_cut_50 (Nat.le_of_ble_eq_true rfl) rfl rfl rfl
  obtain ⟨x3, ex3, hf⟩ := ob hf
  refine sp_aI (pc := 12) dX8_cut_12 ex3 ?_
  refine sp_istore (pc := 13) (lv' := [(6, .int x3), (5, .int (-1)), (0, .ref v0), (1, .int v1), (2, .int v2), (3, .int v3), (4, .int v4)]) dX8_cut_13 (by decide) rfl ?_
  exact sp_sub [2, 3, 4, 5, 6, 1, 0] rfl (w_X8_cut_15 hQ FU hf)

theorem o_X8_cut {h : HP} {v0 : Nat} {v1 : Int32} {v2 : Int32} {v3 : Int32} {v4 : Int32} {res : HP} (hf : f_X8_cut h v0 v1 v2 v3 v4 = some res) : ∃ fs, h v0 = some (.inr (8, fs)) := by
  obtain ⟨u, eu, -⟩ := ob hf
  exact kO_spec eu

theorem m_X8_cut {l : Launch} {Q : PST} {h : HP} {v0 : Nat} {v1 : Int32} {v2 : Int32} {v3 : Int32} {v4 : Int32} {sz : Nat} {res : HP} (hQ : ∀ sz', Q (.inl none) res sz') (hf : f_X8_cut h v0 v1 v2 v3 v4 = some res) : MM l M_X8_cut [.ref v0, .int v1, .int v2, .int v3, .int v4] h sz Q := by
  obtain ⟨u, eu, hf⟩ := ob hf
  exact MM_of wok_X8_cut (by decide +kernel) (Nat.le_of_ble_eq_true rfl) ((w_X8_cut_0 hQ hf))

theorem dX8_clean_0 : decode (mB M_X8_clean) 0 = .ok (.aload_n 0, 1) := by decide +kernel
theorem dX8_clean_1 : decode (mB M_X8_clean) 1 = .ok (.iconst 0, 1) := by decide +kernel
theorem dX8_clean_2 : decode (mB M_X8_clean) 2 = .ok (.putfield 78, 3) := by decide +kernel
theorem dX8_clean_5 : decode (mB M_X8_clean) 5 = .ok (.iload_n 1, 1) := by decide +kernel
theorem dX8_clean_6 : decode (mB M_X8_clean) 6 = .ok (.istore 4, 2) := by decide +kernel
theorem dX8_clean_8 : decode (mB M_X8_clean) 8 = .ok (.iload 4, 2) := by decide +kernel
theorem dX8_clean_10 : decode (mB M_X8_clean) 10 = .ok (.iload_n 2, 1) := by decide +kernel
theorem dX8_clean_11 : decode (mB M_X8_clean) 11 = .ok (.if_icmp .ge 53, 3) := by decide +kernel
theorem dX8_clean_14 : decode (mB M_X8_clean) 14 = .ok (.aload_n 0, 1) := by decide +kernel
theorem dX8_clean_15 : decode (mB M_X8_clean) 15 = .ok (.getfield 32, 3) := by decide +kernel
theorem dX8_clean_18 : decode (mB M_X8_clean) 18 = .ok (.iload 4, 2) := by decide +kernel
theorem dX8_clean_20 : decode (mB M_X8_clean) 20 = .ok (.aload_n 0, 1) := by decide +kernel
theorem dX8_clean_21 : decode (mB M_X8_clean) 21 = .ok (.iload 4, 2) := by decide +kernel
theorem dX8_clean_23 : decode (mB M_X8_clean) 23 = .ok (.invokevirtual 68, 3) := by decide +kernel
theorem dX8_clean_26 : decode (mB M_X8_clean) 26 = .ok (.ifCond .eq 30, 3) := by decide +kernel
theorem dX8_clean_29 : decode (mB M_X8_clean) 29 = .ok (.aload_n 0, 1) := by decide +kernel
theorem dX8_clean_30 : decode (mB M_X8_clean) 30 = .ok (.iload 4, 2) := by decide +kernel
theorem dX8_clean_32 : decode (mB M_X8_clean) 32 = .ok (.aload_n 0, 1) := by decide +kernel
theorem dX8_clean_33 : decode (mB M_X8_clean) 33 = .ok (.getfield 7, 3) := by decide +kernel
theorem dX8_clean_36 : decode (mB M_X8_clean) 36 = .ok (.iload 4, 2) := by decide +kernel
theorem dX8_clean_38 : decode (mB M_X8_clean) 38 = .ok (.iconst 1, 1) := by decide +kernel
theorem dX8_clean_39 : decode (mB M_X8_clean) 39 = .ok (.invokestatic 50, 3) := by decide +kernel
theorem dX8_clean_42 : decode (mB M_X8_clean) 42 = .ok (.iaload, 1) := by decide +kernel
theorem dX8_clean_43 : decode (mB M_X8_clean) 43 = .ok (.iload_n 1, 1) := by decide +kernel
theorem dX8_clean_44 : decode (mB M_X8_clean) 44 = .ok (.iload_n 2, 1) := by decide +kernel
theorem dX8_clean_45 : decode (mB M_X8_clean) 45 = .ok (.iconst 0, 1) := by decide +kernel
theorem dX8_clean_46 : decode (mB M_X8_clean) 46 = .ok (.invokevirtual 81, 3) := by decide +kernel
theorem dX8_clean_49 : decode (mB M_X8_clean) 49 = .ok (.ifCond .eq 7, 3) := by decide +kernel
theorem dX8_clean_52 : decode (mB M_X8_clean) 52 = .ok (.iconst 1, 1) := by decide +kernel
theorem dX8_clean_53 : decode (mB M_X8_clean) 53 = .ok (.goto 4, 3) := by decide +kernel
theorem dX8_clean_56 : decode (mB M_X8_clean) 56 = .ok (.iconst 0, 1) := by decide +kernel
theorem dX8_clean_57 : decode (mB M_X8_clean) 57 = .ok (.bastore, 1) := by decide +kernel
theorem dX8_clean_58 : decode (mB M_X8_clean) 58 = .ok (.iinc 4 1, 3) := by decide +kernel
theorem dX8_clean_61 : decode (mB M_X8_clean) 61 = .ok (.goto (-53), 3) := by decide +kernel
theorem dX8_clean_64 : decode (mB M_X8_clean) 64 = .ok (.iload_n 1, 1) := by decide +kernel
theorem dX8_clean_65 : decode (mB M_X8_clean) 65 = .ok (.istore 4, 2) := by decide +kernel
theorem dX8_clean_67 : decode (mB M_X8_clean) 67 = .ok (.iload 4, 2) := by decide +kernel
theorem dX8_clean_69 : decode (mB M_X8_clean) 69 = .ok (.iload_n 2, 1) := by decide +kernel
theorem dX8_clean_70 : decode (mB M_X8_clean) 70 = .ok (.if_icmp .ge 68, 3) := by decide +kernel
theorem dX8_clean_73 : decode (mB M_X8_clean) 73 = .ok (.aload_n 0, 1) := by decide +kernel
theorem dX8_clean_74 : decode (mB M_X8_clean) 74 = .ok (.iload 4, 2) := by decide +kernel
theorem dX8_clean_76 : decode (mB M_X8_clean) 76 = .ok (.invokevirtual 68, 3) := by decide +kernel
theorem dX8_clean_79 : decode (mB M_X8_clean) 79 = .ok (.ifCond .eq 44, 3) := by decide +kernel
theorem dX8_clean_82 : decode (mB M_X8_clean) 82 = .ok (.aload_n 0, 1) := by decide +kernel
theorem dX8_clean_83 : decode (mB M_X8_clean) 83 = .ok (.getfield 32, 3) := by decide +kernel
theorem dX8_clean_86 : decode (mB M_X8_clean) 86 = .ok (.iload 4, 2) := by decide +kernel
theorem dX8_clean_88 : decode (mB M_X8_clean) 88 = .ok (.baload, 1) := by decide +kernel
theorem dX8_clean_89 : decode (mB M_X8_clean) 89 = .ok (.ifCond .ne 43, 3) := by decide +kernel
theorem dX8_clean_92 : decode (mB M_X8_clean) 92 = .ok (.aload_n 0, 1) := by decide +kernel
theorem dX8_clean_93 : decode (mB M_X8_clean) 93 = .ok (.iload 4, 2) := by decide +kernel
theorem dX8_clean_95 : decode (mB M_X8_clean) 95 = .ok (.aload_n 0, 1) := by decide +kernel
theorem dX8_clean_96 : decode (mB M_X8_clean) 96 = .ok (.getfield 7, 3) := by decide +kernel
theorem dX8_clean_99 : decode (mB M_X8_clean) 99 = .ok (.iload 4, 2) := by decide +kernel
theorem dX8_clean_101 : decode (mB M_X8_clean) 101 = .ok (.iconst 1, 1) := by decide +kernel
theorem dX8_clean_102 : decode (mB M_X8_clean) 102 = .ok (.invokestatic 50, 3) := by decide +kernel
theorem dX8_clean_105 : decode (mB M_X8_clean) 105 = .ok (.iaload, 1) := by decide +kernel
theorem dX8_clean_106 : decode (mB M_X8_clean) 106 = .ok (.aload_n 0, 1) := by decide +kernel
theorem dX8_clean_107 : decode (mB M_X8_clean) 107 = .ok (.getfield 7, 3) := by decide +kernel
theorem dX8_clean_110 : decode (mB M_X8_clean) 110 = .ok (.iload 4, 2) := by decide +kernel
theorem dX8_clean_112 : decode (mB M_X8_clean) 112 = .ok (.iconst 2, 1) := by decide +kernel
theorem dX8_clean_113 : decode (mB M_X8_clean) 113 = .ok (.invokestatic 50, 3) := by decide +kernel
theorem dX8_clean_116 : decode (mB M_X8_clean) 116 = .ok (.iaload, 1) := by decide +kernel
theorem dX8_clean_117 : decode (mB M_X8_clean) 117 = .ok (.invokevirtual 85, 3) := by decide +kernel
theorem dX8_clean_120 : decode (mB M_X8_clean) 120 = .ok (.goto 12, 3) := by decide +kernel
theorem dX8_clean_123 : decode (mB M_X8_clean) 123 = .ok (.aload_n 0, 1) := by decide +kernel
theorem dX8_clean_124 : decode (mB M_X8_clean) 124 = .ok (.iload 4, 2) := by decide +kernel
theorem dX8_clean_126 : decode (mB M_X8_clean) 126 = .ok (.iload_n 1, 1) := by decide +kernel
theorem dX8_clean_127 : decode (mB M_X8_clean) 127 = .ok (.iload_n 2, 1) := by decide +kernel
theorem dX8_clean_128 : decode (mB M_X8_clean) 128 = .ok (.iload_n 3, 1) := by decide +kernel
theorem dX8_clean_129 : decode (mB M_X8_clean) 129 = .ok (.invokevirtual 89, 3) := by decide +kernel
theorem dX8_clean_132 : decode (mB M_X8_clean) 132 = .ok (.iinc 4 1, 3) := by decide +kernel
theorem dX8_clean_135 : decode (mB M_X8_clean) 135 = .ok (.goto (-68), 3) := by decide +kernel
theorem dX8_clean_138 : decode (mB M_X8_clean) 138 = .ok (.return_, 1) := by decide +kernel
def c_X8_clean_67 (v0 : Nat) (v1 : Int32) (v2 : Int32) (v3 : Int32) (k67 : HP → Int32 → Option (HP)) (h : HP) (v4 : Int32) : Option (HP) :=
  if v2 ≤ v4 then some h else (f_X8_isEntry h v0 v4).bind fun y2 => if y2 = 0 then (f_X8_cut h v0 v4 v1 v2 v3).bind fun y4 => k67 y4 (v4 + 1) else (gR 8 11 h v0).bind fun x5 => (aZ h x5 v4).bind fun x6 => if x6 = 0 then (gR 8 1 h v0).bind fun x8 => (f_X8_of h v4 1).bind fun y9 => (aI h x8 y9).bind fun x10 => (gR 8 1 h v0).bind fun x11 => (f_X8_of h v4 2).bind fun y12 => (aI h x11 y12).bind fun x13 => (f_X8_leave h v0 v4 x10 x13).bind fun y14 => k67 y14 (v4 + 1) else k67 h (v4 + 1)
def b_X8_clean_67 (v0 : Nat) (v1 : Int32) (v2 : Int32) (v3 : Int32) : Nat → HP → Int32 → Option (HP)
  | 0, _, _ => none
  | n + 1, h, v4 => c_X8_clean_67 v0 v1 v2 v3 (b_X8_clean_67 v0 v1 v2 v3 n) h v4
def b_X8_clean_57 (v0 : Nat) (v1 : Int32) (v2 : Int32) (v3 : Int32) (k8 : HP → Int32 → Option (HP)) (h : HP) (v4 : Int32) (s0 : Nat) (s1 : Int32) (s2 : Int32) : Option (HP) :=
  (wZ h s0 s1 s2).bind fun h1 => k8 h1 (v4 + 1)
def c_X8_clean_8 (v0 : Nat) (v1 : Int32) (v2 : Int32) (v3 : Int32) (k8 : HP → Int32 → Option (HP)) (h : HP) (v4 : Int32) : Option (HP) :=
  if v2 ≤ v4 then b_X8_clean_67 v0 v1 v2 v3 FU h v1 else (gR 8 11 h v0).bind fun x2 => (f_X8_isEntry h v0 v4).bind fun y3 => if y3 = 0 then b_X8_clean_57 v0 v1 v2 v3 k8 h v4 x2 v4 0 else (gR 8 1 h v0).bind fun x5 => (f_X8_of h v4 1).bind fun y6 => (aI h x5 y6).bind fun x7 => (f_X8_isCovered h v0 v4 x7 v1 v2 0).bind fun y8 => if y8 = 0 then b_X8_clean_57 v0 v1 v2 v3 k8 h v4 x2 v4 0 else b_X8_clean_57 v0 v1 v2 v3 k8 h v4 x2 v4 1
def b_X8_clean_8 (v0 : Nat) (v1 : Int32) (v2 : Int32) (v3 : Int32) : Nat → HP → Int32 → Option (HP)
  | 0, _, _ => none
  | n + 1, h, v4 => c_X8_clean_8 v0 v1 v2 v3 (b_X8_clean_8 v0 v1 v2 v3 n) h v4
def b_X8_clean_0 (v0 : Nat) (v1 : Int32) (v2 : Int32) (v3 : Int32) (h : HP) : Option (HP) :=
  (pI 8 10 h v0 0).bind fun h1 => b_X8_clean_8 v0 v1 v2 v3 FU h1 v1
def f_X8_clean (h : HP) (v0 : Nat) (v1 : Int32) (v2 : Int32) (v3 : Int32) : Option (HP) := (kO 8 h v0).bind fun _ => b_X8_clean_0 v0 v1 v2 v3 h
theorem wc_X8_clean_67 {l : Launch} {X : SCR} {Q : PST} {bc bs : Nat} {res : HP} (hQ : ∀ sz', Q (.inl none) res sz') {v0 : Nat} {v1 : Int32} {v2 : Int32} {v3 : Int32} {k67 : HP → Int32 → Option (HP)} (hk67 : ∀ (h : HP) (v4 : Int32) (sz : Nat), k67 h v4 = some res → SP l X M_X8_clean 67 [(0, .ref v0), (1, .int v1), (2, .int v2), (3, .int v3), (4, .int v4)] [] h sz bc bs Q) {h : HP} {v4 : Int32} {sz : Nat} (hf : c_X8_clean_67 v0 v1 v2 v3 k67 h v4 = some res) : SP l X M_X8_clean 67 [(0, .ref v0), (1, .int v1), (2, .int v2), (3, .int v3), (4, .int v4)] [] h sz bc bs Q := by
  rw [c_X8_clean_67] at hf
  refine sp_iload (pc := 67) dX8_clean_67 4 rfl ?_
  refine sp_iload_n (pc := 69) dX8_clean_69 2 rfl ?_
  refine sp_icmp_ge (pc := 70) (tgt := 138) dX8_clean_70 (by decide) (fun c1 => ?_) (fun c1 => ?_)
  · rw [if_pos c1] at hf
    obtain rfl := Option.some.inj hf
    exact sp_return (pc := 138) dX8_clean_138 rfl (hQ _)
  · rw [if_neg c1] at hf
    refine sp_aload_n (pc := 73) dX8_clean_73 0 rfl ?_
    refine sp_iload (pc := 74) dX8_clean_74 4 rfl ?_
    obtain ⟨y2, ey2, hf⟩ := ob hf
    obtain ⟨fsy2, hoy2⟩ := o_X8_isEntry ey2
    refine sp_callVi (pc := 76) (z := M_X8_isEntry) (As := [.int v4]) (b := v0) (bc2 := bc) (bs2 := bs) (m_X8_isEntry (Q := _) (fun sz => ⟨y2, rfl, ?_⟩) ey2) rfl dX8_clean_76 hoy2 rfl rfl ck_X8_clean_68 (Nat.le_of_ble_eq_true rfl) rfl rfl rfl
    refine sp_if_eq (pc := 79) (tgt := 123) dX8_clean_79 (by decide) (fun c3 => ?_) (fun c3 => ?_)
    · rw [if_pos c3] at hf
      refine sp_aload_n (pc := 123) dX8_clean_123 0 rfl ?_
      refine sp_iload (pc := 124) dX8_clean_124 4 rfl ?_
      refine sp_iload_n (pc := 126) dX8_clean_126 1 rfl ?_
      refine sp_iload_n (pc := 127) dX8_clean_127 2 rfl ?_
      refine sp_iload_n (pc := 128) dX8_clean_128 3 rfl ?_
      obtain ⟨y4, ey4, hf⟩ := ob hf
      obtain ⟨fsy4, hoy4⟩ := o_X8_cut ey4
      refine sp_callVv (pc := 129) (z := M_X8_cut) (As := [.int v4, .int v1, .int v2, .int v3]) (b := v0) (bc2 := bc) (bs2 := bs) (m_X8_cut (Q := _) (fun sz => ⟨(), rfl, ?_⟩) ey4) rfl dX8_clean_129 hoy4 rfl rfl ck_X8_clean_89 (Nat.le_of_ble_eq_true rfl) rfl rfl rfl
      refine sp_iinc (pc := 132) (v := v4 + 1) (lv' := [(4, .int (v4 + 1)), (0, .ref v0), (1, .int v1), (2, .int v2), (3, .int v3)]) dX8_clean_132 4 rfl rfl (by decide) rfl ?_
      refine sp_goto (pc := 135) (tgt := 67) dX8_clean_135 (by decide) ?_
      exact sp_sub [1, 2, 3, 4, 0] rfl (hk67 _ _ _ hf)
    · rw [if_neg c3] at hf
      refine sp_aload_n (pc := 82) dX8_clean_82 0 rfl ?_
      obtain ⟨x5, ex5, hf⟩ := ob hf
      refine sp_gR (pc := 83) fl_RX8_32 dX8_clean_83 ex5 ?_
      refine sp_iload (pc := 86) dX8_clean_86 4 rfl ?_
      obtain ⟨x6, ex6, hf⟩ := ob hf
      refine sp_aZ (pc := 88) dX8_clean_88 ex6 ?_
      refine sp_if_ne (pc := 89) (tgt := 132) dX8_clean_89 (by decide) (fun c7 => ?_) (fun c7 => ?_)
      · rw [if_neg c7] at hf
        refine sp_iinc (pc := 132) (v := v4 + 1) (lv' := [(4, .int (v4 + 1)), (0, .ref v0), (1, .int v1), (2, .int v2), (3, .int v3)]) dX8_clean_132 4 rfl rfl (by decide) rfl ?_
        refine sp_goto (pc := 135) (tgt := 67) dX8_clean_135 (by decide) ?_
        exact sp_sub [1, 2, 3, 4, 0] rfl (hk67 _ _ _ hf)
      · rw [if_pos c7] at hf
        refine sp_aload_n (pc := 92) dX8_clean_92 0 rfl ?_
        refine sp_iload (pc := 93) dX8_clean_93 4 rfl ?_
        refine sp_aload_n (pc := 95) dX8_clean_95 0 rfl ?_
        obtain ⟨x8, ex8, hf⟩ := ob hf
        refine sp_gR (pc := 96) fl_RX8_7 dX8_clean_96 ex8 ?_
        refine sp_iload (pc := 99) dX8_clean_99 4 rfl ?_
        refine sp_iconst (pc := 101) (v := 1) dX8_clean_101 (by decide) ?_
        obtain ⟨y9, ey9, hf⟩ := ob hf
        refine sp_callSi (pc := 102) (z := M_X8_of) (As := [.int v4, .int 1]) (bc2 := bc) (bs2 := bs) (m_X8_of (Q := _) (fun sz => ⟨y9, rfl, ?_⟩) ey9) rfl dX8_clean_102 rfl ck_X8_clean_50 (Nat.le_of_ble_eq_true rfl) rfl rfl rfl
        obtain ⟨x10, ex10, hf⟩ := ob hf
        refine sp_aI (pc := 105) dX8_clean_105 ex10 ?_
        refine sp_aload_n (pc := 106) dX8_clean_106 0 rfl ?_
        obtain ⟨x11, ex11, hf⟩ := ob hf
        refine sp_gR (pc := 107) fl_RX8_7 dX8_clean_107 ex11 ?_
        refine sp_iload (pc := 110) dX8_clean_110 4 rfl ?_
        refine sp_iconst (pc := 112) (v := 2) dX8_clean_112 (by decide) ?_
        obtain ⟨y12, ey12, hf⟩ := ob hf
        refine sp_callSi (pc := 113) (z := M_X8_of) (As := [.int v4, .int 2]) (bc2 := bc) (bs2 := bs) (m_X8_of (Q := _) (fun sz => ⟨y12, rfl, ?_⟩) ey12) rfl dX8_clean_113 rfl ck_X8_clean_50 (Nat.le_of_ble_eq_true rfl) rfl rfl rfl
        obtain ⟨x13, ex13, hf⟩ := ob hf
        refine sp_aI (pc := 116) dX8_clean_116 ex13 ?_
        obtain ⟨y14, ey14, hf⟩ := ob hf
        obtain ⟨fsy14, hoy14⟩ := o_X8_leave ey14
        refine sp_callVv (pc := 117) (z := M_X8_leave) (As := [.int v4, .int x10, .int x13]) (b := v0) (bc2 := bc) (bs2 := bs) (m_X8_leave (Q := _) (fun sz => ⟨(), rfl, ?_⟩) ey14) rfl dX8_clean_117 hoy14 rfl rfl ck_X8_clean_85 (Nat.le_of_ble_eq_true rfl) rfl rfl rfl
        refine sp_goto (pc := 120) (tgt := 132) dX8_clean_120 (by decide) ?_
        refine sp_iinc (pc := 132) (v := v4 + 1) (lv' := [(4, .int (v4 + 1)), (0, .ref v0), (1, .int v1), (2, .int v2), (3, .int v3)]) dX8_clean_132 4 rfl rfl (by decide) rfl ?_
        refine sp_goto (pc := 135) (tgt := 67) dX8_clean_135 (by decide) ?_
        exact sp_sub [1, 2, 3, 4, 0] rfl (hk67 _ _ _ hf)

theorem w_X8_clean_67 {l : Launch} {X : SCR} {Q : PST} {bc bs : Nat} {res : HP} (hQ : ∀ sz', Q (.inl none) res sz') {v0 : Nat} {v1 : Int32} {v2 : Int32} {v3 : Int32} : ∀ (n : Nat) {h : HP} {v4 : Int32} {sz : Nat}, b_X8_clean_67 v0 v1 v2 v3 n h v4 = some res → SP l X M_X8_clean 67 [(0, .ref v0), (1, .int v1), (2, .int v2), (3, .int v3), (4, .int v4)] [] h sz bc bs Q := by
  intro n
  induction n with
  | zero =>
    intro h v4 sz hf
    rw [b_X8_clean_67] at hf
    cases hf
  | succ n ih =>
    intro h v4 sz hf
    rw [b_X8_clean_67] at hf
    exact wc_X8_clean_67 hQ (fun h v4 sz hf => ih hf) hf

theorem w_X8_clean_57 {l : Launch} {X : SCR} {Q : PST} {bc bs : Nat} {res : HP} {h : HP} (hQ : ∀ sz', Q (.inl none) res sz') {v0 : Nat} {v1 : Int32} {v2 : Int32} {v3 : Int32} {k8 : HP → Int32 → Option (HP)} (hk8 : ∀ (h : HP) (v4 : Int32) (sz : Nat), k8 h v4 = some res → SP l X M_X8_clean 8 [(0, .ref v0), (1, .int v1), (2, .int v2), (3, .int v3), (4, .int v4)] [] h sz bc bs Q) {v4 : Int32} {s0 : Nat} {s1 : Int32} {s2 : Int32} {sz : Nat} (hf : b_X8_clean_57 v0 v1 v2 v3 k8 h v4 s0 s1 s2 = some res) : SP l X M_X8_clean 57 [(0, .ref v0), (1, .int v1), (2, .int v2), (3, .int v3), (4, .int v4)] [.int s2, .int s1, .ref s0] h sz bc bs Q := by
  rw [b_X8_clean_57] at hf
  obtain ⟨h1, eh1, hf⟩ := ob hf
  refine sp_wZ (pc := 57) dX8_clean_57 eh1 (fun sz => ?_)
  refine sp_iinc (pc := 58) (v := v4 + 1) (lv' := [(4, .int (v4 + 1)), (0, .ref v0), (1, .int v1), (2, .int v2), (3, .int v3)]) dX8_clean_58 4 rfl rfl (by decide) rfl ?_
  refine sp_goto (pc := 61) (tgt := 8) dX8_clean_61 (by decide) ?_
  exact sp_sub [1, 2, 3, 4, 0] rfl (hk8 _ _ _ hf)

theorem wc_X8_clean_8 {l : Launch} {X : SCR} {Q : PST} {bc bs : Nat} {res : HP} (hQ : ∀ sz', Q (.inl none) res sz') {v0 : Nat} {v1 : Int32} {v2 : Int32} {v3 : Int32} {k8 : HP → Int32 → Option (HP)} (hk8 : ∀ (h : HP) (v4 : Int32) (sz : Nat), k8 h v4 = some res → SP l X M_X8_clean 8 [(0, .ref v0), (1, .int v1), (2, .int v2), (3, .int v3), (4, .int v4)] [] h sz bc bs Q) {h : HP} {v4 : Int32} {sz : Nat} (hf : c_X8_clean_8 v0 v1 v2 v3 k8 h v4 = some res) : SP l X M_X8_clean 8 [(0, .ref v0), (1, .int v1), (2, .int v2), (3, .int v3), (4, .int v4)] [] h sz bc bs Q := by
  rw [c_X8_clean_8] at hf
  refine sp_iload (pc := 8) dX8_clean_8 4 rfl ?_
  refine sp_iload_n (pc := 10) dX8_clean_10 2 rfl ?_
  refine sp_icmp_ge (pc := 11) (tgt := 64) dX8_clean_11 (by decide) (fun c1 => ?_) (fun c1 => ?_)
  · rw [if_pos c1] at hf
    refine sp_iload_n (pc := 64) dX8_clean_64 1 rfl ?_
    refine sp_istore (pc := 65) (lv' := [(4, .int v1), (0, .ref v0), (1, .int v1), (2, .int v2), (3, .int v3)]) dX8_clean_65 (by decide) rfl ?_
    exact sp_sub [1, 2, 3, 4, 0] rfl (w_X8_clean_67 hQ FU hf)
  · rw [if_neg c1] at hf
    refine sp_aload_n (pc := 14) dX8_clean_14 0 rfl ?_
    obtain ⟨x2, ex2, hf⟩ := ob hf
    refine sp_gR (pc := 15) fl_RX8_32 dX8_clean_15 ex2 ?_
    refine sp_iload (pc := 18) dX8_clean_18 4 rfl ?_
    refine sp_aload_n (pc := 20) dX8_clean_20 0 rfl ?_
    refine sp_iload (pc := 21) dX8_clean_21 4 rfl ?_
    obtain ⟨y3, ey3, hf⟩ := ob hf
    obtain ⟨fsy3, hoy3⟩ := o_X8_isEntry ey3
    refine sp_callVi (pc := 23) (z := M_X8_isEntry) (As := [.int v4]) (b := v0) (bc2 := bc) (bs2 := bs) (m_X8_isEntry (Q := _) (fun sz => ⟨y3, rfl, ?_⟩) ey3) rfl dX8_clean_23 hoy3 rfl rfl ck_X8_clean_68 (Nat.le_of_ble_eq_true rfl) rfl rfl rfl
    refine sp_if_eq (pc := 26) (tgt := 56) dX8_clean_26 (by decide) (fun c4 => ?_) (fun c4 => ?_)
    · rw [if_pos c4] at hf
      refine sp_iconst (pc := 56) (v := 0) dX8_clean_56 (by decide) ?_
      exact (w_X8_clean_57 hQ hk8 hf)
    · rw [if_neg c4] at hf
      refine sp_aload_n (pc := 29) dX8_clean_29 0 rfl ?_
      refine sp_iload (pc := 30) dX8_clean_30 4 rfl ?_
      refine sp_aload_n (pc := 32) dX8_clean_32 0 rfl ?_
      obtain ⟨x5, ex5, hf⟩ := ob hf
      refine sp_gR (pc := 33) fl_RX8_7 dX8_clean_33 ex5 ?_
      refine sp_iload (pc := 36) dX8_clean_36 4 rfl ?_
      refine sp_iconst (pc := 38) (v := 1) dX8_clean_38 (by decide) ?_
      obtain ⟨y6, ey6, hf⟩ := ob hf
      refine sp_callSi (pc := 39) (z := M_X8_of) (As := [.int v4, .int 1]) (bc2 := bc) (bs2 := bs) (m_X8_of (Q := _) (fun sz => ⟨y6, rfl, ?_⟩) ey6) rfl dX8_clean_39 rfl ck_X8_clean_50 (Nat.le_of_ble_eq_true rfl) rfl rfl rfl
      obtain ⟨x7, ex7, hf⟩ := ob hf
      refine sp_aI (pc := 42) dX8_clean_42 ex7 ?_
      refine sp_iload_n (pc := 43) dX8_clean_43 1 rfl ?_
      refine sp_iload_n (pc := 44) dX8_clean_44 2 rfl ?_
      refine sp_iconst (pc := 45) (v := 0) dX8_clean_45 (by decide) ?_
      obtain ⟨y8, ey8, hf⟩ := ob hf
      obtain ⟨fsy8, hoy8⟩ := o_X8_isCovered ey8
      refine sp_callVi (pc := 46) (z := M_X8_isCovered) (As := [.int v4, .int x7, .int v1, .int v2, .int 0]) (b := v0) (bc2 := bc) (bs2 := bs) (m_X8_isCovered (Q := _) (fun sz => ⟨y8, rfl, ?_⟩) ey8) rfl dX8_clean_46 hoy8 rfl rfl ck_X8_clean_81 (Nat.le_of_ble_eq_true rfl) rfl rfl rfl
      refine sp_if_eq (pc := 49) (tgt := 56) dX8_clean_49 (by decide) (fun c9 => ?_) (fun c9 => ?_)
      · rw [if_pos c9] at hf
        refine sp_iconst (pc := 56) (v := 0) dX8_clean_56 (by decide) ?_
        exact (w_X8_clean_57 hQ hk8 hf)
      · rw [if_neg c9] at hf
        refine sp_iconst (pc := 52) (v := 1) dX8_clean_52 (by decide) ?_
        refine sp_goto (pc := 53) (tgt := 57) dX8_clean_53 (by decide) ?_
        exact (w_X8_clean_57 hQ hk8 hf)

theorem w_X8_clean_8 {l : Launch} {X : SCR} {Q : PST} {bc bs : Nat} {res : HP} (hQ : ∀ sz', Q (.inl none) res sz') {v0 : Nat} {v1 : Int32} {v2 : Int32} {v3 : Int32} : ∀ (n : Nat) {h : HP} {v4 : Int32} {sz : Nat}, b_X8_clean_8 v0 v1 v2 v3 n h v4 = some res → SP l X M_X8_clean 8 [(0, .ref v0), (1, .int v1), (2, .int v2), (3, .int v3), (4, .int v4)] [] h sz bc bs Q := by
  intro n
  induction n with
  | zero =>
    intro h v4 sz hf
    rw [b_X8_clean_8] at hf
    cases hf
  | succ n ih =>
    intro h v4 sz hf
    rw [b_X8_clean_8] at hf
    exact wc_X8_clean_8 hQ (fun h v4 sz hf => ih hf) hf

theorem w_X8_clean_0 {l : Launch} {X : SCR} {Q : PST} {bc bs : Nat} {res : HP} {h : HP} (hQ : ∀ sz', Q (.inl none) res sz') {v0 : Nat} {v1 : Int32} {v2 : Int32} {v3 : Int32} {sz : Nat} (hf : b_X8_clean_0 v0 v1 v2 v3 h  = some res) : SP l X M_X8_clean 0 [(0, .ref v0), (1, .int v1), (2, .int v2), (3, .int v3)] [] h sz bc bs Q := by
  rw [b_X8_clean_0] at hf
  refine sp_aload_n (pc := 0) dX8_clean_0 0 rfl ?_
  refine sp_iconst (pc := 1) (v := 0) dX8_clean_1 (by decide) ?_
  obtain ⟨h1, eh1, hf⟩ := ob hf
  refine sp_pI (pc := 2) pf_RX8_78 dX8_clean_2 eh1 (fun sz => ?_)
  refine sp_iload_n (pc := 5) dX8_clean_5 1 rfl ?_
  refine sp_istore (pc := 6) (lv' := [(4, .int v1), (0, .ref v0), (1, .int v1), (2, .int v2), (3, .int v3)]) dX8_clean_6 (by decide) rfl ?_
  exact sp_sub [1, 2, 3, 4, 0] rfl (w_X8_clean_8 hQ FU hf)

theorem o_X8_clean {h : HP} {v0 : Nat} {v1 : Int32} {v2 : Int32} {v3 : Int32} {res : HP} (hf : f_X8_clean h v0 v1 v2 v3 = some res) : ∃ fs, h v0 = some (.inr (8, fs)) := by
  obtain ⟨u, eu, -⟩ := ob hf
  exact kO_spec eu

theorem m_X8_clean {l : Launch} {Q : PST} {h : HP} {v0 : Nat} {v1 : Int32} {v2 : Int32} {v3 : Int32} {sz : Nat} {res : HP} (hQ : ∀ sz', Q (.inl none) res sz') (hf : f_X8_clean h v0 v1 v2 v3 = some res) : MM l M_X8_clean [.ref v0, .int v1, .int v2, .int v3] h sz Q := by
  obtain ⟨u, eu, hf⟩ := ob hf
  exact MM_of wok_X8_clean (by decide +kernel) (Nat.le_of_ble_eq_true rfl) ((w_X8_clean_0 hQ hf))

theorem dX8_replace_0 : decode (mB M_X8_replace) 0 = .ok (.aload_n 0, 1) := by decide +kernel
theorem dX8_replace_1 : decode (mB M_X8_replace) 1 = .ok (.invokevirtual 54, 3) := by decide +kernel
theorem dX8_replace_4 : decode (mB M_X8_replace) 4 = .ok (.istore_n 3, 1) := by decide +kernel
theorem dX8_replace_5 : decode (mB M_X8_replace) 5 = .ok (.aload_n 0, 1) := by decide +kernel
theorem dX8_replace_6 : decode (mB M_X8_replace) 6 = .ok (.getfield 78, 3) := by decide +kernel
theorem dX8_replace_9 : decode (mB M_X8_replace) 9 = .ok (.iload_n 2, 1) := by decide +kernel
theorem dX8_replace_10 : decode (mB M_X8_replace) 10 = .ok (.iload_n 1, 1) := by decide +kernel
theorem dX8_replace_11 : decode (mB M_X8_replace) 11 = .ok (.isub, 1) := by decide +kernel
theorem dX8_replace_12 : decode (mB M_X8_replace) 12 = .ok (.isub, 1) := by decide +kernel
theorem dX8_replace_13 : decode (mB M_X8_replace) 13 = .ok (.istore 4, 2) := by decide +kernel
theorem dX8_replace_15 : decode (mB M_X8_replace) 15 = .ok (.iconst 0, 1) := by decide +kernel
theorem dX8_replace_16 : decode (mB M_X8_replace) 16 = .ok (.istore 5, 2) := by decide +kernel
theorem dX8_replace_18 : decode (mB M_X8_replace) 18 = .ok (.iload 5, 2) := by decide +kernel
theorem dX8_replace_20 : decode (mB M_X8_replace) 20 = .ok (.iconst 4, 1) := by decide +kernel
theorem dX8_replace_21 : decode (mB M_X8_replace) 21 = .ok (.iload_n 3, 1) := by decide +kernel
theorem dX8_replace_22 : decode (mB M_X8_replace) 22 = .ok (.iload_n 2, 1) := by decide +kernel
theorem dX8_replace_23 : decode (mB M_X8_replace) 23 = .ok (.isub, 1) := by decide +kernel
theorem dX8_replace_24 : decode (mB M_X8_replace) 24 = .ok (.imul, 1) := by decide +kernel
theorem dX8_replace_25 : decode (mB M_X8_replace) 25 = .ok (.if_icmp .ge 56, 3) := by decide +kernel
theorem dX8_replace_28 : decode (mB M_X8_replace) 28 = .ok (.iload 4, 2) := by decide +kernel
theorem dX8_replace_30 : decode (mB M_X8_replace) 30 = .ok (.ifCond .ge 14, 3) := by decide +kernel
theorem dX8_replace_33 : decode (mB M_X8_replace) 33 = .ok (.iload_n 2, 1) := by decide +kernel
theorem dX8_replace_34 : decode (mB M_X8_replace) 34 = .ok (.iconst 0, 1) := by decide +kernel
theorem dX8_replace_35 : decode (mB M_X8_replace) 35 = .ok (.invokestatic 50, 3) := by decide +kernel
theorem dX8_replace_38 : decode (mB M_X8_replace) 38 = .ok (.iload 5, 2) := by decide +kernel
theorem dX8_replace_40 : decode (mB M_X8_replace) 40 = .ok (.iadd, 1) := by decide +kernel
theorem dX8_replace_41 : decode (mB M_X8_replace) 41 = .ok (.goto 13, 3) := by decide +kernel
theorem dX8_replace_44 : decode (mB M_X8_replace) 44 = .ok (.iload_n 3, 1) := by decide +kernel
theorem dX8_replace_45 : decode (mB M_X8_replace) 45 = .ok (.iconst 0, 1) := by decide +kernel
theorem dX8_replace_46 : decode (mB M_X8_replace) 46 = .ok (.invokestatic 50, 3) := by decide +kernel
theorem dX8_replace_49 : decode (mB M_X8_replace) 49 = .ok (.iconst 1, 1) := by decide +kernel
theorem dX8_replace_50 : decode (mB M_X8_replace) 50 = .ok (.isub, 1) := by decide +kernel
theorem dX8_replace_51 : decode (mB M_X8_replace) 51 = .ok (.iload 5, 2) := by decide +kernel
theorem dX8_replace_53 : decode (mB M_X8_replace) 53 = .ok (.isub, 1) := by decide +kernel
theorem dX8_replace_54 : decode (mB M_X8_replace) 54 = .ok (.istore 6, 2) := by decide +kernel
theorem dX8_replace_56 : decode (mB M_X8_replace) 56 = .ok (.aload_n 0, 1) := by decide +kernel
theorem dX8_replace_57 : decode (mB M_X8_replace) 57 = .ok (.getfield 7, 3) := by decide +kernel
theorem dX8_replace_60 : decode (mB M_X8_replace) 60 = .ok (.iload 6, 2) := by decide +kernel
theorem dX8_replace_62 : decode (mB M_X8_replace) 62 = .ok (.iconst 4, 1) := by decide +kernel
theorem dX8_replace_63 : decode (mB M_X8_replace) 63 = .ok (.iload 4, 2) := by decide +kernel
theorem dX8_replace_65 : decode (mB M_X8_replace) 65 = .ok (.imul, 1) := by decide +kernel
theorem dX8_replace_66 : decode (mB M_X8_replace) 66 = .ok (.iadd, 1) := by decide +kernel
theorem dX8_replace_67 : decode (mB M_X8_replace) 67 = .ok (.aload_n 0, 1) := by decide +kernel
theorem dX8_replace_68 : decode (mB M_X8_replace) 68 = .ok (.getfield 7, 3) := by decide +kernel
theorem dX8_replace_71 : decode (mB M_X8_replace) 71 = .ok (.iload 6, 2) := by decide +kernel
theorem dX8_replace_73 : decode (mB M_X8_replace) 73 = .ok (.iaload, 1) := by decide +kernel
theorem dX8_replace_74 : decode (mB M_X8_replace) 74 = .ok (.iastore, 1) := by decide +kernel
theorem dX8_replace_75 : decode (mB M_X8_replace) 75 = .ok (.iinc 5 1, 3) := by decide +kernel
theorem dX8_replace_78 : decode (mB M_X8_replace) 78 = .ok (.goto (-60), 3) := by decide +kernel
theorem dX8_replace_81 : decode (mB M_X8_replace) 81 = .ok (.iconst 0, 1) := by decide +kernel
theorem dX8_replace_82 : decode (mB M_X8_replace) 82 = .ok (.istore 5, 2) := by decide +kernel
theorem dX8_replace_84 : decode (mB M_X8_replace) 84 = .ok (.iload 5, 2) := by decide +kernel
theorem dX8_replace_86 : decode (mB M_X8_replace) 86 = .ok (.iconst 4, 1) := by decide +kernel
theorem dX8_replace_87 : decode (mB M_X8_replace) 87 = .ok (.aload_n 0, 1) := by decide +kernel
theorem dX8_replace_88 : decode (mB M_X8_replace) 88 = .ok (.getfield 78, 3) := by decide +kernel
theorem dX8_replace_91 : decode (mB M_X8_replace) 91 = .ok (.imul, 1) := by decide +kernel
theorem dX8_replace_92 : decode (mB M_X8_replace) 92 = .ok (.if_icmp .ge 29, 3) := by decide +kernel
theorem dX8_replace_95 : decode (mB M_X8_replace) 95 = .ok (.aload_n 0, 1) := by decide +kernel
theorem dX8_replace_96 : decode (mB M_X8_replace) 96 = .ok (.getfield 7, 3) := by decide +kernel
theorem dX8_replace_99 : decode (mB M_X8_replace) 99 = .ok (.iload_n 1, 1) := by decide +kernel
theorem dX8_replace_100 : decode (mB M_X8_replace) 100 = .ok (.iconst 0, 1) := by decide +kernel
theorem dX8_replace_101 : decode (mB M_X8_replace) 101 = .ok (.invokestatic 50, 3) := by decide +kernel
theorem dX8_replace_104 : decode (mB M_X8_replace) 104 = .ok (.iload 5, 2) := by decide +kernel
theorem dX8_replace_106 : decode (mB M_X8_replace) 106 = .ok (.iadd, 1) := by decide +kernel
theorem dX8_replace_107 : decode (mB M_X8_replace) 107 = .ok (.aload_n 0, 1) := by decide +kernel
theorem dX8_replace_108 : decode (mB M_X8_replace) 108 = .ok (.getfield 29, 3) := by decide +kernel
theorem dX8_replace_111 : decode (mB M_X8_replace) 111 = .ok (.iload 5, 2) := by decide +kernel
theorem dX8_replace_113 : decode (mB M_X8_replace) 113 = .ok (.iaload, 1) := by decide +kernel
theorem dX8_replace_114 : decode (mB M_X8_replace) 114 = .ok (.iastore, 1) := by decide +kernel
theorem dX8_replace_115 : decode (mB M_X8_replace) 115 = .ok (.iinc 5 1, 3) := by decide +kernel
theorem dX8_replace_118 : decode (mB M_X8_replace) 118 = .ok (.goto (-34), 3) := by decide +kernel
theorem dX8_replace_121 : decode (mB M_X8_replace) 121 = .ok (.aload_n 0, 1) := by decide +kernel
theorem dX8_replace_122 : decode (mB M_X8_replace) 122 = .ok (.getfield 7, 3) := by decide +kernel
theorem dX8_replace_125 : decode (mB M_X8_replace) 125 = .ok (.bipush 11, 2) := by decide +kernel
theorem dX8_replace_127 : decode (mB M_X8_replace) 127 = .ok (.dup2, 1) := by decide +kernel
theorem dX8_replace_128 : decode (mB M_X8_replace) 128 = .ok (.iaload, 1) := by decide +kernel
theorem dX8_replace_129 : decode (mB M_X8_replace) 129 = .ok (.iload 4, 2) := by decide +kernel
theorem dX8_replace_131 : decode (mB M_X8_replace) 131 = .ok (.isub, 1) := by decide +kernel
theorem dX8_replace_132 : decode (mB M_X8_replace) 132 = .ok (.iastore, 1) := by decide +kernel
theorem dX8_replace_133 : decode (mB M_X8_replace) 133 = .ok (.return_, 1) := by decide +kernel
def c_X8_replace_84 (v0 : Nat) (v1 : Int32) (k84 : HP → Int32 → Int32 → Option (HP)) (h : HP) (v4 : Int32) (v5 : Int32) : Option (HP) :=
  (gI 8 10 h v0).bind fun x1 => if (4 * x1) ≤ v5 then (gR 8 1 h v0).bind fun x3 => (aI h x3 11).bind fun x4 => (wI h x3 11 (x4 - v4)).bind fun h5 => some h5 else (gR 8 1 h v0).bind fun x6 => (f_X8_of h v1 0).bind fun y7 => (gR 8 9 h v0).bind fun x8 => (aI h x8 v5).bind fun x9 => (wI h x6 (y7 + v5) x9).bind fun h10 => k84 h10 v4 (v5 + 1)
def b_X8_replace_84 (v0 : Nat) (v1 : Int32) : Nat → HP → Int32 → Int32 → Option (HP)
  | 0, _, _, _ => none
  | n + 1, h, v4, v5 => c_X8_replace_84 v0 v1 (b_X8_replace_84 v0 v1 n) h v4 v5
def b_X8_replace_54 (v0 : Nat) (v1 : Int32) (v2 : Int32) (k18 : HP → Int32 → Int32 → Int32 → Option (HP)) (h : HP) (v3 : Int32) (v4 : Int32) (v5 : Int32) (s0 : Int32) : Option (HP) :=
  (gR 8 1 h v0).bind fun x1 => (gR 8 1 h v0).bind fun x2 => (aI h x2 s0).bind fun x3 => (wI h x1 (s0 + (4 * v4)) x3).bind fun h4 => k18 h4 v3 v4 (v5 + 1)
def c_X8_replace_18 (v0 : Nat) (v1 : Int32) (v2 : Int32) (k18 : HP → Int32 → Int32 → Int32 → Option (HP)) (h : HP) (v3 : Int32) (v4 : Int32) (v5 : Int32) : Option (HP) :=
  if (4 * (v3 - v2)) ≤ v5 then b_X8_replace_84 v0 v1 FU h v4 0 else if 0 ≤ v4 then (f_X8_of h v3 0).bind fun y3 => b_X8_replace_54 v0 v1 v2 k18 h v3 v4 v5 ((y3 - 1) - v5) else (f_X8_of h v2 0).bind fun y4 => b_X8_replace_54 v0 v1 v2 k18 h v3 v4 v5 (y4 + v5)
def b_X8_replace_18 (v0 : Nat) (v1 : Int32) (v2 : Int32) : Nat → HP → Int32 → Int32 → Int32 → Option (HP)
  | 0, _, _, _, _ => none
  | n + 1, h, v3, v4, v5 => c_X8_replace_18 v0 v1 v2 (b_X8_replace_18 v0 v1 v2 n) h v3 v4 v5
def b_X8_replace_0 (v0 : Nat) (v1 : Int32) (v2 : Int32) (h : HP) : Option (HP) :=
  (f_X8_all h v0).bind fun y1 => (gI 8 10 h v0).bind fun x2 => b_X8_replace_18 v0 v1 v2 FU h y1 (x2 - (v2 - v1)) 0
def f_X8_replace (h : HP) (v0 : Nat) (v1 : Int32) (v2 : Int32) : Option (HP) := (kO 8 h v0).bind fun _ => b_X8_replace_0 v0 v1 v2 h
theorem wc_X8_replace_84 {l : Launch} {X : SCR} {Q : PST} {bc bs : Nat} {res : HP} (hQ : ∀ sz', Q (.inl none) res sz') {v0 : Nat} {v1 : Int32} {k84 : HP → Int32 → Int32 → Option (HP)} (hk84 : ∀ (h : HP) (v4 : Int32) (v5 : Int32) (sz : Nat), k84 h v4 v5 = some res → SP l X M_X8_replace 84 [(0, .ref v0), (1, .int v1), (4, .int v4), (5, .int v5)] [] h sz bc bs Q) {h : HP} {v4 : Int32} {v5 : Int32} {sz : Nat} (hf : c_X8_replace_84 v0 v1 k84 h v4 v5 = some res) : SP l X M_X8_replace 84 [(0, .ref v0), (1, .int v1), (4, .int v4), (5, .int v5)] [] h sz bc bs Q := by
  rw [c_X8_replace_84] at hf
  refine sp_iload (pc := 84) dX8_replace_84 3 rfl ?_
  refine sp_iconst (pc := 86) (v := 4) dX8_replace_86 (by decide) ?_
  refine sp_aload_n (pc := 87) dX8_replace_87 0 rfl ?_
  obtain ⟨x1, ex1, hf⟩ := ob hf
  refine sp_gI (pc := 88) fl_RX8_78 dX8_replace_88 ex1 ?_
  refine sp_imul (pc := 91) dX8_replace_91 ?_
  refine sp_icmp_ge (pc := 92) (tgt := 121) dX8_replace_92 (by decide) (fun c2 => ?_) (fun c2 => ?_)
  · rw [if_pos c2] at hf
    refine sp_aload_n (pc := 121) dX8_replace_121 0 rfl ?_
    obtain ⟨x3, ex3, hf⟩ := ob hf
    refine sp_gR (pc := 122) fl_RX8_7 dX8_replace_122 ex3 ?_
    refine sp_bipush (pc := 125) (v := 11) dX8_replace_125 (by decide) ?_
    refine sp_dup2 (pc := 127) dX8_replace_127 rfl rfl ?_
    obtain ⟨x4, ex4, hf⟩ := ob hf
    refine sp_aI (pc := 128) dX8_replace_128 ex4 ?_
    refine sp_iload (pc := 129) dX8_replace_129 2 rfl ?_
    refine sp_isub (pc := 131) dX8_replace_131 ?_
    obtain ⟨h5, eh5, hf⟩ := ob hf
    refine sp_wI (pc := 132) dX8_replace_132 eh5 (fun sz => ?_)
    obtain rfl := Option.some.inj hf
    exact sp_return (pc := 133) dX8_replace_133 rfl (hQ _)
  · rw [if_neg c2] at hf
    refine sp_aload_n (pc := 95) dX8_replace_95 0 rfl ?_
    obtain ⟨x6, ex6, hf⟩ := ob hf
    refine sp_gR (pc := 96) fl_RX8_7 dX8_replace_96 ex6 ?_
    refine sp_iload_n (pc := 99) dX8_replace_99 1 rfl ?_
    refine sp_iconst (pc := 100) (v := 0) dX8_replace_100 (by decide) ?_
    obtain ⟨y7, ey7, hf⟩ := ob hf
    refine sp_callSi (pc := 101) (z := M_X8_of) (As := [.int v1, .int 0]) (bc2 := bc) (bs2 := bs) (m_X8_of (Q := _) (fun sz => ⟨y7, rfl, ?_⟩) ey7) rfl dX8_replace_101 rfl ck_X8_replace_50 (Nat.le_of_ble_eq_true rfl) rfl rfl rfl
    refine sp_iload (pc := 104) dX8_replace_104 3 rfl ?_
    refine sp_iadd (pc := 106) dX8_replace_106 ?_
    refine sp_aload_n (pc := 107) dX8_replace_107 0 rfl ?_
    obtain ⟨x8, ex8, hf⟩ := ob hf
    refine sp_gR (pc := 108) fl_RX8_29 dX8_replace_108 ex8 ?_
    refine sp_iload (pc := 111) dX8_replace_111 3 rfl ?_
    obtain ⟨x9, ex9, hf⟩ := ob hf
    refine sp_aI (pc := 113) dX8_replace_113 ex9 ?_
    obtain ⟨h10, eh10, hf⟩ := ob hf
    refine sp_wI (pc := 114) dX8_replace_114 eh10 (fun sz => ?_)
    refine sp_iinc (pc := 115) (v := v5 + 1) (lv' := [(5, .int (v5 + 1)), (0, .ref v0), (1, .int v1), (4, .int v4)]) dX8_replace_115 3 rfl rfl (by decide) rfl ?_
    refine sp_goto (pc := 118) (tgt := 84) dX8_replace_118 (by decide) ?_
    exact sp_sub [1, 2, 3, 0] rfl (hk84 _ _ _ _ hf)

theorem w_X8_replace_84 {l : Launch} {X : SCR} {Q : PST} {bc bs : Nat} {res : HP} (hQ : ∀ sz', Q (.inl none) res sz') {v0 : Nat} {v1 : Int32} : ∀ (n : Nat) {h : HP} {v4 : Int32} {v5 : Int32} {sz : Nat}, b_X8_replace_84 v0 v1 n h v4 v5 = some res → SP l X M_X8_replace 84 [(0, .ref v0), (1, .int v1), (4, .int v4), (5, .int v5)] [] h sz bc bs Q := by
  intro n
  induction n with
  | zero =>
    intro h v4 v5 sz hf
    rw [b_X8_replace_84] at hf
    cases hf
  | succ n ih =>
    intro h v4 v5 sz hf
    rw [b_X8_replace_84] at hf
    exact wc_X8_replace_84 hQ (fun h v4 v5 sz hf => ih hf) hf

theorem w_X8_replace_54 {l : Launch} {X : SCR} {Q : PST} {bc bs : Nat} {res : HP} {h : HP} (hQ : ∀ sz', Q (.inl none) res sz') {v0 : Nat} {v1 : Int32} {v2 : Int32} {k18 : HP → Int32 → Int32 → Int32 → Option (HP)} (hk18 : ∀ (h : HP) (v3 : Int32) (v4 : Int32) (v5 : Int32) (sz : Nat), k18 h v3 v4 v5 = some res → SP l X M_X8_replace 18 [(0, .ref v0), (1, .int v1), (2, .int v2), (3, .int v3), (4, .int v4), (5, .int v5)] [] h sz bc bs Q) {v3 : Int32} {v4 : Int32} {v5 : Int32} {s0 : Int32} {sz : Nat} (hf : b_X8_replace_54 v0 v1 v2 k18 h v3 v4 v5 s0 = some res) : SP l X M_X8_replace 54 [(0, .ref v0), (1, .int v1), (2, .int v2), (3, .int v3), (4, .int v4), (5, .int v5)] [.int s0] h sz bc bs Q := by
  rw [b_X8_replace_54] at hf
  refine sp_istore (pc := 54) (lv' := [(6, .int s0), (0, .ref v0), (1, .int v1), (2, .int v2), (3, .int v3), (4, .int v4), (5, .int v5)]) dX8_replace_54 (by decide) rfl ?_
  refine sp_aload_n (pc := 56) dX8_replace_56 1 rfl ?_
  obtain ⟨x1, ex1, hf⟩ := ob hf
  refine sp_gR (pc := 57) fl_RX8_7 dX8_replace_57 ex1 ?_
  refine sp_iload (pc := 60) dX8_replace_60 0 rfl ?_
  refine sp_iconst (pc := 62) (v := 4) dX8_replace_62 (by decide) ?_
  refine sp_iload (pc := 63) dX8_replace_63 5 rfl ?_
  refine sp_imul (pc := 65) dX8_replace_65 ?_
  refine sp_iadd (pc := 66) dX8_replace_66 ?_
  refine sp_aload_n (pc := 67) dX8_replace_67 1 rfl ?_
  obtain ⟨x2, ex2, hf⟩ := ob hf
  refine sp_gR (pc := 68) fl_RX8_7 dX8_replace_68 ex2 ?_
  refine sp_iload (pc := 71) dX8_replace_71 0 rfl ?_
  obtain ⟨x3, ex3, hf⟩ := ob hf
  refine sp_aI (pc := 73) dX8_replace_73 ex3 ?_
  obtain ⟨h4, eh4, hf⟩ := ob hf
  refine sp_wI (pc := 74) dX8_replace_74 eh4 (fun sz => ?_)
  refine sp_iinc (pc := 75) (v := v5 + 1) (lv' := [(5, .int (v5 + 1)), (6, .int s0), (0, .ref v0), (1, .int v1), (2, .int v2), (3, .int v3), (4, .int v4)]) dX8_replace_75 6 rfl rfl (by decide) rfl ?_
  refine sp_goto (pc := 78) (tgt := 18) dX8_replace_78 (by decide) ?_
  exact sp_sub [2, 3, 4, 5, 6, 0] rfl (hk18 _ _ _ _ _ hf)

theorem wc_X8_replace_18 {l : Launch} {X : SCR} {Q : PST} {bc bs : Nat} {res : HP} (hQ : ∀ sz', Q (.inl none) res sz') {v0 : Nat} {v1 : Int32} {v2 : Int32} {k18 : HP → Int32 → Int32 → Int32 → Option (HP)} (hk18 : ∀ (h : HP) (v3 : Int32) (v4 : Int32) (v5 : Int32) (sz : Nat), k18 h v3 v4 v5 = some res → SP l X M_X8_replace 18 [(0, .ref v0), (1, .int v1), (2, .int v2), (3, .int v3), (4, .int v4), (5, .int v5)] [] h sz bc bs Q) {h : HP} {v3 : Int32} {v4 : Int32} {v5 : Int32} {sz : Nat} (hf : c_X8_replace_18 v0 v1 v2 k18 h v3 v4 v5 = some res) : SP l X M_X8_replace 18 [(0, .ref v0), (1, .int v1), (2, .int v2), (3, .int v3), (4, .int v4), (5, .int v5)] [] h sz bc bs Q := by
  rw [c_X8_replace_18] at hf
  refine sp_iload (pc := 18) dX8_replace_18 5 rfl ?_
  refine sp_iconst (pc := 20) (v := 4) dX8_replace_20 (by decide) ?_
  refine sp_iload_n (pc := 21) dX8_replace_21 3 rfl ?_
  refine sp_iload_n (pc := 22) dX8_replace_22 2 rfl ?_
  refine sp_isub (pc := 23) dX8_replace_23 ?_
  refine sp_imul (pc := 24) dX8_replace_24 ?_
  refine sp_icmp_ge (pc := 25) (tgt := 81) dX8_replace_25 (by decide) (fun c1 => ?_) (fun c1 => ?_)
  · rw [if_pos c1] at hf
    refine sp_iconst (pc := 81) (v := 0) dX8_replace_81 (by decide) ?_
    refine sp_istore (pc := 82) (lv' := [(5, .int 0), (0, .ref v0), (1, .int v1), (2, .int v2), (3, .int v3), (4, .int v4)]) dX8_replace_82 (by decide) rfl ?_
    exact sp_sub [1, 2, 5, 0] rfl (w_X8_replace_84 hQ FU hf)
  · rw [if_neg c1] at hf
    refine sp_iload (pc := 28) dX8_replace_28 4 rfl ?_
    refine sp_if_ge (pc := 30) (tgt := 44) dX8_replace_30 (by decide) (fun c2 => ?_) (fun c2 => ?_)
    · rw [if_pos c2] at hf
      refine sp_iload_n (pc := 44) dX8_replace_44 3 rfl ?_
      refine sp_iconst (pc := 45) (v := 0) dX8_replace_45 (by decide) ?_
      obtain ⟨y3, ey3, hf⟩ := ob hf
      refine sp_callSi (pc := 46) (z := M_X8_of) (As := [.int v3, .int 0]) (bc2 := bc) (bs2 := bs) (m_X8_of (Q := _) (fun sz => ⟨y3, rfl, ?_⟩) ey3) rfl dX8_replace_46 rfl ck_X8_replace_50 (Nat.le_of_ble_eq_true rfl) rfl rfl rfl
      refine sp_iconst (pc := 49) (v := 1) dX8_replace_49 (by decide) ?_
      refine sp_isub (pc := 50) dX8_replace_50 ?_
      refine sp_iload (pc := 51) dX8_replace_51 5 rfl ?_
      refine sp_isub (pc := 53) dX8_replace_53 ?_
      exact (w_X8_replace_54 hQ hk18 hf)
    · rw [if_neg c2] at hf
      refine sp_iload_n (pc := 33) dX8_replace_33 2 rfl ?_
      refine sp_iconst (pc := 34) (v := 0) dX8_replace_34 (by decide) ?_
      obtain ⟨y4, ey4, hf⟩ := ob hf
      refine sp_callSi (pc := 35) (z := M_X8_of) (As := [.int v2, .int 0]) (bc2 := bc) (bs2 := bs) (m_X8_of (Q := _) (fun sz => ⟨y4, rfl, ?_⟩) ey4) rfl dX8_replace_35 rfl ck_X8_replace_50 (Nat.le_of_ble_eq_true rfl) rfl rfl rfl
      refine sp_iload (pc := 38) dX8_replace_38 5 rfl ?_
      refine sp_iadd (pc := 40) dX8_replace_40 ?_
      refine sp_goto (pc := 41) (tgt := 54) dX8_replace_41 (by decide) ?_
      exact (w_X8_replace_54 hQ hk18 hf)

theorem w_X8_replace_18 {l : Launch} {X : SCR} {Q : PST} {bc bs : Nat} {res : HP} (hQ : ∀ sz', Q (.inl none) res sz') {v0 : Nat} {v1 : Int32} {v2 : Int32} : ∀ (n : Nat) {h : HP} {v3 : Int32} {v4 : Int32} {v5 : Int32} {sz : Nat}, b_X8_replace_18 v0 v1 v2 n h v3 v4 v5 = some res → SP l X M_X8_replace 18 [(0, .ref v0), (1, .int v1), (2, .int v2), (3, .int v3), (4, .int v4), (5, .int v5)] [] h sz bc bs Q := by
  intro n
  induction n with
  | zero =>
    intro h v3 v4 v5 sz hf
    rw [b_X8_replace_18] at hf
    cases hf
  | succ n ih =>
    intro h v3 v4 v5 sz hf
    rw [b_X8_replace_18] at hf
    exact wc_X8_replace_18 hQ (fun h v3 v4 v5 sz hf => ih hf) hf

theorem w_X8_replace_0 {l : Launch} {X : SCR} {Q : PST} {bc bs : Nat} {res : HP} {h : HP} (hQ : ∀ sz', Q (.inl none) res sz') {v0 : Nat} {v1 : Int32} {v2 : Int32} {sz : Nat} (hf : b_X8_replace_0 v0 v1 v2 h  = some res) : SP l X M_X8_replace 0 [(0, .ref v0), (1, .int v1), (2, .int v2)] [] h sz bc bs Q := by
  rw [b_X8_replace_0] at hf
  refine sp_aload_n (pc := 0) dX8_replace_0 0 rfl ?_
  obtain ⟨y1, ey1, hf⟩ := ob hf
  obtain ⟨fsy1, hoy1⟩ := o_X8_all ey1
  refine sp_callVi (pc := 1) (z := M_X8_all) (As := []) (b := v0) (bc2 := bc) (bs2 := bs) (m_X8_all (Q := _) (fun sz => ⟨y1, rfl, ?_⟩) ey1) rfl dX8_replace_1 hoy1 rfl rfl ck_X8_replace_54 (Nat.le_of_ble_eq_true rfl) rfl rfl rfl
  refine sp_istore_n (pc := 4) (lv' := [(3, .int y1), (0, .ref v0), (1, .int v1), (2, .int v2)]) dX8_replace_4 (by decide) rfl ?_
  refine sp_aload_n (pc := 5) dX8_replace_5 1 rfl ?_
  obtain ⟨x2, ex2, hf⟩ := ob hf
  refine sp_gI (pc := 6) fl_RX8_78 dX8_replace_6 ex2 ?_
  refine sp_iload_n (pc := 9) dX8_replace_9 3 rfl ?_
  refine sp_iload_n (pc := 10) dX8_replace_10 2 rfl ?_
  refine sp_isub (pc := 11) dX8_replace_11 ?_
  refine sp_isub (pc := 12) dX8_replace_12 ?_
  refine sp_istore (pc := 13) (lv' := [(4, .int (x2 - (v2 - v1))), (3, .int y1), (0, .ref v0), (1, .int v1), (2, .int v2)]) dX8_replace_13 (by decide) rfl ?_
  refine sp_iconst (pc := 15) (v := 0) dX8_replace_15 (by decide) ?_
  refine sp_istore (pc := 16) (lv' := [(5, .int 0), (4, .int (x2 - (v2 - v1))), (3, .int y1), (0, .ref v0), (1, .int v1), (2, .int v2)]) dX8_replace_16 (by decide) rfl ?_
  exact sp_sub [3, 4, 5, 2, 1, 0] rfl (w_X8_replace_18 hQ FU hf)

theorem o_X8_replace {h : HP} {v0 : Nat} {v1 : Int32} {v2 : Int32} {res : HP} (hf : f_X8_replace h v0 v1 v2 = some res) : ∃ fs, h v0 = some (.inr (8, fs)) := by
  obtain ⟨u, eu, -⟩ := ob hf
  exact kO_spec eu

theorem m_X8_replace {l : Launch} {Q : PST} {h : HP} {v0 : Nat} {v1 : Int32} {v2 : Int32} {sz : Nat} {res : HP} (hQ : ∀ sz', Q (.inl none) res sz') (hf : f_X8_replace h v0 v1 v2 = some res) : MM l M_X8_replace [.ref v0, .int v1, .int v2] h sz Q := by
  obtain ⟨u, eu, hf⟩ := ob hf
  exact MM_of wok_X8_replace (by decide +kernel) (Nat.le_of_ble_eq_true rfl) ((w_X8_replace_0 hQ hf))

theorem dX8_isRoomFor_0 : decode (mB M_X8_isRoomFor) 0 = .ok (.aload_n 0, 1) := by decide +kernel
theorem dX8_isRoomFor_1 : decode (mB M_X8_isRoomFor) 1 = .ok (.invokevirtual 54, 3) := by decide +kernel
theorem dX8_isRoomFor_4 : decode (mB M_X8_isRoomFor) 4 = .ok (.aload_n 0, 1) := by decide +kernel
theorem dX8_isRoomFor_5 : decode (mB M_X8_isRoomFor) 5 = .ok (.getfield 78, 3) := by decide +kernel
theorem dX8_isRoomFor_8 : decode (mB M_X8_isRoomFor) 8 = .ok (.iadd, 1) := by decide +kernel
theorem dX8_isRoomFor_9 : decode (mB M_X8_isRoomFor) 9 = .ok (.iload_n 2, 1) := by decide +kernel
theorem dX8_isRoomFor_10 : decode (mB M_X8_isRoomFor) 10 = .ok (.iload_n 1, 1) := by decide +kernel
theorem dX8_isRoomFor_11 : decode (mB M_X8_isRoomFor) 11 = .ok (.isub, 1) := by decide +kernel
theorem dX8_isRoomFor_12 : decode (mB M_X8_isRoomFor) 12 = .ok (.isub, 1) := by decide +kernel
theorem dX8_isRoomFor_13 : decode (mB M_X8_isRoomFor) 13 = .ok (.bipush 48, 2) := by decide +kernel
theorem dX8_isRoomFor_15 : decode (mB M_X8_isRoomFor) 15 = .ok (.if_icmp .gt 7, 3) := by decide +kernel
theorem dX8_isRoomFor_18 : decode (mB M_X8_isRoomFor) 18 = .ok (.iconst 1, 1) := by decide +kernel
theorem dX8_isRoomFor_19 : decode (mB M_X8_isRoomFor) 19 = .ok (.goto 4, 3) := by decide +kernel
theorem dX8_isRoomFor_22 : decode (mB M_X8_isRoomFor) 22 = .ok (.iconst 0, 1) := by decide +kernel
theorem dX8_isRoomFor_23 : decode (mB M_X8_isRoomFor) 23 = .ok (.ireturn, 1) := by decide +kernel
def b_X8_isRoomFor_0 (h : HP) (v0 : Nat) (v1 : Int32) (v2 : Int32) : Option (Int32) :=
  (f_X8_all h v0).bind fun y1 => (gI 8 10 h v0).bind fun x2 => if 48 < ((y1 + x2) - (v2 - v1)) then some (0) else some (1)
def f_X8_isRoomFor (h : HP) (v0 : Nat) (v1 : Int32) (v2 : Int32) : Option (Int32) := (kO 8 h v0).bind fun _ => b_X8_isRoomFor_0 h v0 v1 v2
theorem w_X8_isRoomFor_0 {l : Launch} {X : SCR} {Q : PST} {bc bs : Nat} {res : Int32} {h : HP} (hQ : ∀ sz', Q (.inl (some (.int res))) h sz') {v0 : Nat} {v1 : Int32} {v2 : Int32} {sz : Nat} (hf : b_X8_isRoomFor_0 h v0 v1 v2  = some res) : SP l X M_X8_isRoomFor 0 [(0, .ref v0), (1, .int v1), (2, .int v2)] [] h sz bc bs Q := by
  rw [b_X8_isRoomFor_0] at hf
  refine sp_aload_n (pc := 0) dX8_isRoomFor_0 0 rfl ?_
  obtain ⟨y1, ey1, hf⟩ := ob hf
  obtain ⟨fsy1, hoy1⟩ := o_X8_all ey1
  refine sp_callVi (pc := 1) (z := M_X8_all) (As := []) (b := v0) (bc2 := bc) (bs2 := bs) (m_X8_all (Q := _) (fun sz => ⟨y1, rfl, ?_⟩) ey1) rfl dX8_isRoomFor_1 hoy1 rfl rfl ck_X8_isRoomFor_54 (Nat.le_of_ble_eq_true rfl) rfl rfl rfl
  refine sp_aload_n (pc := 4) dX8_isRoomFor_4 0 rfl ?_
  obtain ⟨x2, ex2, hf⟩ := ob hf
  refine sp_gI (pc := 5) fl_RX8_78 dX8_isRoomFor_5 ex2 ?_
  refine sp_iadd (pc := 8) dX8_isRoomFor_8 ?_
  refine sp_iload_n (pc := 9) dX8_isRoomFor_9 2 rfl ?_
  refine sp_iload_n (pc := 10) dX8_isRoomFor_10 1 rfl ?_
  refine sp_isub (pc := 11) dX8_isRoomFor_11 ?_
  refine sp_isub (pc := 12) dX8_isRoomFor_12 ?_
  refine sp_bipush (pc := 13) (v := 48) dX8_isRoomFor_13 (by decide) ?_
  refine sp_icmp_gt (pc := 15) (tgt := 22) dX8_isRoomFor_15 (by decide) (fun c3 => ?_) (fun c3 => ?_)
  · rw [if_pos c3] at hf
    refine sp_iconst (pc := 22) (v := 0) dX8_isRoomFor_22 (by decide) ?_
    obtain rfl := Option.some.inj hf
    exact sp_ireturn (pc := 23) dX8_isRoomFor_23 rfl rfl (hQ _)
  · rw [if_neg c3] at hf
    refine sp_iconst (pc := 18) (v := 1) dX8_isRoomFor_18 (by decide) ?_
    refine sp_goto (pc := 19) (tgt := 23) dX8_isRoomFor_19 (by decide) ?_
    obtain rfl := Option.some.inj hf
    exact sp_ireturn (pc := 23) dX8_isRoomFor_23 rfl rfl (hQ _)

theorem o_X8_isRoomFor {h : HP} {v0 : Nat} {v1 : Int32} {v2 : Int32} {res : Int32} (hf : f_X8_isRoomFor h v0 v1 v2 = some res) : ∃ fs, h v0 = some (.inr (8, fs)) := by
  obtain ⟨u, eu, -⟩ := ob hf
  exact kO_spec eu

theorem m_X8_isRoomFor {l : Launch} {Q : PST} {h : HP} {v0 : Nat} {v1 : Int32} {v2 : Int32} {sz : Nat} {res : Int32} (hQ : ∀ sz', Q (.inl (some (.int res))) h sz') (hf : f_X8_isRoomFor h v0 v1 v2 = some res) : MM l M_X8_isRoomFor [.ref v0, .int v1, .int v2] h sz Q := by
  obtain ⟨u, eu, hf⟩ := ob hf
  exact MM_of wok_X8_isRoomFor (by decide +kernel) (Nat.le_of_ble_eq_true rfl) ((w_X8_isRoomFor_0 hQ hf))

theorem dX8_putFault_0 : decode (mB M_X8_putFault) 0 = .ok (.iload_n 1, 1) := by decide +kernel
theorem dX8_putFault_1 : decode (mB M_X8_putFault) 1 = .ok (.invokestatic 97, 3) := by decide +kernel
theorem dX8_putFault_4 : decode (mB M_X8_putFault) 4 = .ok (.ifCond .ne 7, 3) := by decide +kernel
theorem dX8_putFault_7 : decode (mB M_X8_putFault) 7 = .ok (.iconst 1, 1) := by decide +kernel
theorem dX8_putFault_8 : decode (mB M_X8_putFault) 8 = .ok (.goto 32, 3) := by decide +kernel
theorem dX8_putFault_11 : decode (mB M_X8_putFault) 11 = .ok (.iload_n 2, 1) := by decide +kernel
theorem dX8_putFault_12 : decode (mB M_X8_putFault) 12 = .ok (.iconst 1, 1) := by decide +kernel
theorem dX8_putFault_13 : decode (mB M_X8_putFault) 13 = .ok (.sipush 999, 3) := by decide +kernel
theorem dX8_putFault_16 : decode (mB M_X8_putFault) 16 = .ok (.invokestatic 39, 3) := by decide +kernel
theorem dX8_putFault_19 : decode (mB M_X8_putFault) 19 = .ok (.ifCond .ne 7, 3) := by decide +kernel
theorem dX8_putFault_22 : decode (mB M_X8_putFault) 22 = .ok (.iconst 2, 1) := by decide +kernel
theorem dX8_putFault_23 : decode (mB M_X8_putFault) 23 = .ok (.goto 17, 3) := by decide +kernel
theorem dX8_putFault_26 : decode (mB M_X8_putFault) 26 = .ok (.aload_n 0, 1) := by decide +kernel
theorem dX8_putFault_27 : decode (mB M_X8_putFault) 27 = .ok (.invokevirtual 54, 3) := by decide +kernel
theorem dX8_putFault_30 : decode (mB M_X8_putFault) 30 = .ok (.bipush 48, 2) := by decide +kernel
theorem dX8_putFault_32 : decode (mB M_X8_putFault) 32 = .ok (.if_icmp .ne 7, 3) := by decide +kernel
theorem dX8_putFault_35 : decode (mB M_X8_putFault) 35 = .ok (.iconst 3, 1) := by decide +kernel
theorem dX8_putFault_36 : decode (mB M_X8_putFault) 36 = .ok (.goto 4, 3) := by decide +kernel
theorem dX8_putFault_39 : decode (mB M_X8_putFault) 39 = .ok (.iconst 0, 1) := by decide +kernel
theorem dX8_putFault_40 : decode (mB M_X8_putFault) 40 = .ok (.ireturn, 1) := by decide +kernel
def b_X8_putFault_0 (h : HP) (v0 : Nat) (v1 : Int32) (v2 : Int32) : Option (Int32) :=
  (f_X8_isKey h v1).bind fun y1 => if y1 = 0 then some (1) else (f_X8_in h v2 1 999).bind fun y3 => if y3 = 0 then some (2) else (f_X8_all h v0).bind fun y5 => if y5 = 48 then some (3) else some (0)
def f_X8_putFault (h : HP) (v0 : Nat) (v1 : Int32) (v2 : Int32) : Option (Int32) := (kO 8 h v0).bind fun _ => b_X8_putFault_0 h v0 v1 v2
theorem w_X8_putFault_0 {l : Launch} {X : SCR} {Q : PST} {bc bs : Nat} {res : Int32} {h : HP} (hQ : ∀ sz', Q (.inl (some (.int res))) h sz') {v0 : Nat} {v1 : Int32} {v2 : Int32} {sz : Nat} (hf : b_X8_putFault_0 h v0 v1 v2  = some res) : SP l X M_X8_putFault 0 [(0, .ref v0), (1, .int v1), (2, .int v2)] [] h sz bc bs Q := by
  rw [b_X8_putFault_0] at hf
  refine sp_iload_n (pc := 0) dX8_putFault_0 1 rfl ?_
  obtain ⟨y1, ey1, hf⟩ := ob hf
  refine sp_callSi (pc := 1) (z := M_X8_isKey) (As := [.int v1]) (bc2 := bc) (bs2 := bs) (m_X8_isKey (Q := _) (fun sz => ⟨y1, rfl, ?_⟩) ey1) rfl dX8_putFault_1 rfl ck_X8_putFault_97 (Nat.le_of_ble_eq_true rfl) rfl rfl rfl
  refine sp_if_ne (pc := 4) (tgt := 11) dX8_putFault_4 (by decide) (fun c2 => ?_) (fun c2 => ?_)
  · rw [if_neg c2] at hf
    refine sp_iload_n (pc := 11) dX8_putFault_11 2 rfl ?_
    refine sp_iconst (pc := 12) (v := 1) dX8_putFault_12 (by decide) ?_
    refine sp_sipush (pc := 13) (v := 999) dX8_putFault_13 (by decide) ?_
    obtain ⟨y3, ey3, hf⟩ := ob hf
    refine sp_callSi (pc := 16) (z := M_X8_in) (As := [.int v2, .int 1, .int 999]) (bc2 := bc) (bs2 := bs) (m_X8_in (Q := _) (fun sz => ⟨y3, rfl, ?_⟩) ey3) rfl dX8_putFault_16 rfl ck_X8_putFault_39 (Nat.le_of_ble_eq_true rfl) rfl rfl rfl
    refine sp_if_ne (pc := 19) (tgt := 26) dX8_putFault_19 (by decide) (fun c4 => ?_) (fun c4 => ?_)
    · rw [if_neg c4] at hf
      refine sp_aload_n (pc := 26) dX8_putFault_26 0 rfl ?_
      obtain ⟨y5, ey5, hf⟩ := ob hf
      obtain ⟨fsy5, hoy5⟩ := o_X8_all ey5
      refine sp_callVi (pc := 27) (z := M_X8_all) (As := []) (b := v0) (bc2 := bc) (bs2 := bs) (m_X8_all (Q := _) (fun sz => ⟨y5, rfl, ?_⟩) ey5) rfl dX8_putFault_27 hoy5 rfl rfl ck_X8_putFault_54 (Nat.le_of_ble_eq_true rfl) rfl rfl rfl
      refine sp_bipush (pc := 30) (v := 48) dX8_putFault_30 (by decide) ?_
      refine sp_icmp_ne (pc := 32) (tgt := 39) dX8_putFault_32 (by decide) (fun c6 => ?_) (fun c6 => ?_)
      · rw [if_neg c6] at hf
        refine sp_iconst (pc := 39) (v := 0) dX8_putFault_39 (by decide) ?_
        obtain rfl := Option.some.inj hf
        exact sp_ireturn (pc := 40) dX8_putFault_40 rfl rfl (hQ _)
      · rw [if_pos c6] at hf
        refine sp_iconst (pc := 35) (v := 3) dX8_putFault_35 (by decide) ?_
        refine sp_goto (pc := 36) (tgt := 40) dX8_putFault_36 (by decide) ?_
        obtain rfl := Option.some.inj hf
        exact sp_ireturn (pc := 40) dX8_putFault_40 rfl rfl (hQ _)
    · rw [if_pos c4] at hf
      refine sp_iconst (pc := 22) (v := 2) dX8_putFault_22 (by decide) ?_
      refine sp_goto (pc := 23) (tgt := 40) dX8_putFault_23 (by decide) ?_
      obtain rfl := Option.some.inj hf
      exact sp_ireturn (pc := 40) dX8_putFault_40 rfl rfl (hQ _)
  · rw [if_pos c2] at hf
    refine sp_iconst (pc := 7) (v := 1) dX8_putFault_7 (by decide) ?_
    refine sp_goto (pc := 8) (tgt := 40) dX8_putFault_8 (by decide) ?_
    obtain rfl := Option.some.inj hf
    exact sp_ireturn (pc := 40) dX8_putFault_40 rfl rfl (hQ _)

theorem o_X8_putFault {h : HP} {v0 : Nat} {v1 : Int32} {v2 : Int32} {res : Int32} (hf : f_X8_putFault h v0 v1 v2 = some res) : ∃ fs, h v0 = some (.inr (8, fs)) := by
  obtain ⟨u, eu, -⟩ := ob hf
  exact kO_spec eu

theorem m_X8_putFault {l : Launch} {Q : PST} {h : HP} {v0 : Nat} {v1 : Int32} {v2 : Int32} {sz : Nat} {res : Int32} (hQ : ∀ sz', Q (.inl (some (.int res))) h sz') (hf : f_X8_putFault h v0 v1 v2 = some res) : MM l M_X8_putFault [.ref v0, .int v1, .int v2] h sz Q := by
  obtain ⟨u, eu, hf⟩ := ob hf
  exact MM_of wok_X8_putFault (by decide +kernel) (Nat.le_of_ble_eq_true rfl) ((w_X8_putFault_0 hQ hf))

theorem dX8_writes_0 : decode (mB M_X8_writes) 0 = .ok (.aload_n 0, 1) := by decide +kernel
theorem dX8_writes_1 : decode (mB M_X8_writes) 1 = .ok (.invokevirtual 54, 3) := by decide +kernel
theorem dX8_writes_4 : decode (mB M_X8_writes) 4 = .ok (.istore 4, 2) := by decide +kernel
theorem dX8_writes_6 : decode (mB M_X8_writes) 6 = .ok (.aload_n 0, 1) := by decide +kernel
theorem dX8_writes_7 : decode (mB M_X8_writes) 7 = .ok (.getfield 7, 3) := by decide +kernel
theorem dX8_writes_10 : decode (mB M_X8_writes) 10 = .ok (.bipush 10, 2) := by decide +kernel
theorem dX8_writes_12 : decode (mB M_X8_writes) 12 = .ok (.dup2, 1) := by decide +kernel
theorem dX8_writes_13 : decode (mB M_X8_writes) 13 = .ok (.iaload, 1) := by decide +kernel
theorem dX8_writes_14 : decode (mB M_X8_writes) 14 = .ok (.iconst 1, 1) := by decide +kernel
theorem dX8_writes_15 : decode (mB M_X8_writes) 15 = .ok (.iadd, 1) := by decide +kernel
theorem dX8_writes_16 : decode (mB M_X8_writes) 16 = .ok (.iastore, 1) := by decide +kernel
theorem dX8_writes_17 : decode (mB M_X8_writes) 17 = .ok (.aload_n 0, 1) := by decide +kernel
theorem dX8_writes_18 : decode (mB M_X8_writes) 18 = .ok (.getfield 7, 3) := by decide +kernel
theorem dX8_writes_21 : decode (mB M_X8_writes) 21 = .ok (.iload 4, 2) := by decide +kernel
theorem dX8_writes_23 : decode (mB M_X8_writes) 23 = .ok (.iconst 0, 1) := by decide +kernel
theorem dX8_writes_24 : decode (mB M_X8_writes) 24 = .ok (.invokestatic 50, 3) := by decide +kernel
theorem dX8_writes_27 : decode (mB M_X8_writes) 27 = .ok (.aload_n 0, 1) := by decide +kernel
theorem dX8_writes_28 : decode (mB M_X8_writes) 28 = .ok (.getfield 7, 3) := by decide +kernel
theorem dX8_writes_31 : decode (mB M_X8_writes) 31 = .ok (.bipush 10, 2) := by decide +kernel
theorem dX8_writes_33 : decode (mB M_X8_writes) 33 = .ok (.iaload, 1) := by decide +kernel
theorem dX8_writes_34 : decode (mB M_X8_writes) 34 = .ok (.iastore, 1) := by decide +kernel
theorem dX8_writes_35 : decode (mB M_X8_writes) 35 = .ok (.aload_n 0, 1) := by decide +kernel
theorem dX8_writes_36 : decode (mB M_X8_writes) 36 = .ok (.getfield 7, 3) := by decide +kernel
theorem dX8_writes_39 : decode (mB M_X8_writes) 39 = .ok (.iload 4, 2) := by decide +kernel
theorem dX8_writes_41 : decode (mB M_X8_writes) 41 = .ok (.iconst 1, 1) := by decide +kernel
theorem dX8_writes_42 : decode (mB M_X8_writes) 42 = .ok (.invokestatic 50, 3) := by decide +kernel
theorem dX8_writes_45 : decode (mB M_X8_writes) 45 = .ok (.iload_n 1, 1) := by decide +kernel
theorem dX8_writes_46 : decode (mB M_X8_writes) 46 = .ok (.iastore, 1) := by decide +kernel
theorem dX8_writes_47 : decode (mB M_X8_writes) 47 = .ok (.aload_n 0, 1) := by decide +kernel
theorem dX8_writes_48 : decode (mB M_X8_writes) 48 = .ok (.getfield 7, 3) := by decide +kernel
theorem dX8_writes_51 : decode (mB M_X8_writes) 51 = .ok (.iload 4, 2) := by decide +kernel
theorem dX8_writes_53 : decode (mB M_X8_writes) 53 = .ok (.iconst 2, 1) := by decide +kernel
theorem dX8_writes_54 : decode (mB M_X8_writes) 54 = .ok (.invokestatic 50, 3) := by decide +kernel
theorem dX8_writes_57 : decode (mB M_X8_writes) 57 = .ok (.iload_n 2, 1) := by decide +kernel
theorem dX8_writes_58 : decode (mB M_X8_writes) 58 = .ok (.iastore, 1) := by decide +kernel
theorem dX8_writes_59 : decode (mB M_X8_writes) 59 = .ok (.aload_n 0, 1) := by decide +kernel
theorem dX8_writes_60 : decode (mB M_X8_writes) 60 = .ok (.getfield 7, 3) := by decide +kernel
theorem dX8_writes_63 : decode (mB M_X8_writes) 63 = .ok (.iload 4, 2) := by decide +kernel
theorem dX8_writes_65 : decode (mB M_X8_writes) 65 = .ok (.iconst 3, 1) := by decide +kernel
theorem dX8_writes_66 : decode (mB M_X8_writes) 66 = .ok (.invokestatic 50, 3) := by decide +kernel
theorem dX8_writes_69 : decode (mB M_X8_writes) 69 = .ok (.iload_n 3, 1) := by decide +kernel
theorem dX8_writes_70 : decode (mB M_X8_writes) 70 = .ok (.iastore, 1) := by decide +kernel
theorem dX8_writes_71 : decode (mB M_X8_writes) 71 = .ok (.aload_n 0, 1) := by decide +kernel
theorem dX8_writes_72 : decode (mB M_X8_writes) 72 = .ok (.getfield 7, 3) := by decide +kernel
theorem dX8_writes_75 : decode (mB M_X8_writes) 75 = .ok (.bipush 6, 2) := by decide +kernel
theorem dX8_writes_77 : decode (mB M_X8_writes) 77 = .ok (.dup2, 1) := by decide +kernel
theorem dX8_writes_78 : decode (mB M_X8_writes) 78 = .ok (.iaload, 1) := by decide +kernel
theorem dX8_writes_79 : decode (mB M_X8_writes) 79 = .ok (.iconst 1, 1) := by decide +kernel
theorem dX8_writes_80 : decode (mB M_X8_writes) 80 = .ok (.iadd, 1) := by decide +kernel
theorem dX8_writes_81 : decode (mB M_X8_writes) 81 = .ok (.iastore, 1) := by decide +kernel
theorem dX8_writes_82 : decode (mB M_X8_writes) 82 = .ok (.aload_n 0, 1) := by decide +kernel
theorem dX8_writes_83 : decode (mB M_X8_writes) 83 = .ok (.getfield 7, 3) := by decide +kernel
theorem dX8_writes_86 : decode (mB M_X8_writes) 86 = .ok (.bipush 10, 2) := by decide +kernel
theorem dX8_writes_88 : decode (mB M_X8_writes) 88 = .ok (.iaload, 1) := by decide +kernel
theorem dX8_writes_89 : decode (mB M_X8_writes) 89 = .ok (.ireturn, 1) := by decide +kernel
def b_X8_writes_0 (v0 : Nat) (v1 : Int32) (v2 : Int32) (v3 : Int32) (h : HP) : Option (Int32 × HP) :=
  (f_X8_all h v0).bind fun y1 => (gR 8 1 h v0).bind fun x2 => (aI h x2 10).bind fun x3 => (wI h x2 10 (x3 + 1)).bind fun h4 => (gR 8 1 h4 v0).bind fun x5 => (f_X8_of h4 y1 0).bind fun y6 => (gR 8 1 h4 v0).bind fun x7 => (aI h4 x7 10).bind fun x8 => (wI h4 x5 y6 x8).bind fun h9 => (gR 8 1 h9 v0).bind fun x10 => (f_X8_of h9 y1 1).bind fun y11 => (wI h9 x10 y11 v1).bind fun h12 => (gR 8 1 h12 v0).bind fun x13 => (f_X8_of h12 y1 2).bind fun y14 => (wI h12 x13 y14 v2).bind fun h15 => (gR 8 1 h15 v0).bind fun x16 => (f_X8_of h15 y1 3).bind fun y17 => (wI h15 x16 y17 v3).bind fun h18 => (gR 8 1 h18 v0).bind fun x19 => (aI h18 x19 6).bind fun x20 => (wI h18 x19 6 (x20 + 1)).bind fun h21 => (gR 8 1 h21 v0).bind fun x22 => (aI h21 x22 10).bind fun x23 => some (x23, h21)
def f_X8_writes (h : HP) (v0 : Nat) (v1 : Int32) (v2 : Int32) (v3 : Int32) : Option (Int32 × HP) := (kO 8 h v0).bind fun _ => b_X8_writes_0 v0 v1 v2 v3 h
theorem w_X8_writes_0 {l : Launch} {X : SCR} {Q : PST} {bc bs : Nat} {res : Int32 × HP} {h : HP} (hQ : ∀ sz', Q (.inl (some (.int res.1))) res.2 sz') {v0 : Nat} {v1 : Int32} {v2 : Int32} {v3 : Int32} {sz : Nat} (hf : b_X8_writes_0 v0 v1 v2 v3 h  = some res) : SP l X M_X8_writes 0 [(0, .ref v0), (1, .int v1), (2, .int v2), (3, .int v3)] [] h sz bc bs Q := by
  rw [b_X8_writes_0] at hf
  refine sp_aload_n (pc := 0) dX8_writes_0 0 rfl ?_
  obtain ⟨y1, ey1, hf⟩ := ob hf
  obtain ⟨fsy1, hoy1⟩ := o_X8_all ey1
  refine sp_callVi (pc := 1) (z := M_X8_all) (As := []) (b := v0) (bc2 := bc) (bs2 := bs) (m_X8_all (Q := _) (fun sz => ⟨y1, rfl, ?_⟩) ey1) rfl dX8_writes_1 hoy1 rfl rfl ck_X8_writes_54 (Nat.le_of_ble_eq_true rfl) rfl rfl rfl
  refine sp_istore (pc := 4) (lv' := [(4, .int y1), (0, .ref v0), (1, .int v1), (2, .int v2), (3, .int v3)]) dX8_writes_4 (by decide) rfl ?_
  refine sp_aload_n (pc := 6) dX8_writes_6 1 rfl ?_
  obtain ⟨x2, ex2, hf⟩ := ob hf
  refine sp_gR (pc := 7) fl_RX8_7 dX8_writes_7 ex2 ?_
  refine sp_bipush (pc := 10) (v := 10) dX8_writes_10 (by decide) ?_
  refine sp_dup2 (pc := 12) dX8_writes_12 rfl rfl ?_
  obtain ⟨x3, ex3, hf⟩ := ob hf
  refine sp_aI (pc := 13) dX8_writes_13 ex3 ?_
  refine sp_iconst (pc := 14) (v := 1) dX8_writes_14 (by decide) ?_
  refine sp_iadd (pc := 15) dX8_writes_15 ?_
  obtain ⟨h4, eh4, hf⟩ := ob hf
  refine sp_wI (pc := 16) dX8_writes_16 eh4 (fun sz => ?_)
  refine sp_aload_n (pc := 17) dX8_writes_17 1 rfl ?_
  obtain ⟨x5, ex5, hf⟩ := ob hf
  refine sp_gR (pc := 18) fl_RX8_7 dX8_writes_18 ex5 ?_
  refine sp_iload (pc := 21) dX8_writes_21 0 rfl ?_
  refine sp_iconst (pc := 23) (v := 0) dX8_writes_23 (by decide) ?_
  obtain ⟨y6, ey6, hf⟩ := ob hf
  refine sp_callSi (pc := 24) (z := M_X8_of) (As := [.int y1, .int 0]) (bc2 := bc) (bs2 := bs) (m_X8_of (Q := _) (fun sz => ⟨y6, rfl, ?_⟩) ey6) rfl dX8_writes_24 rfl ck_X8_writes_50 (Nat.le_of_ble_eq_true rfl) rfl rfl rfl
  refine sp_aload_n (pc := 27) dX8_writes_27 1 rfl ?_
  obtain ⟨x7, ex7, hf⟩ := ob hf
  refine sp_gR (pc := 28) fl_RX8_7 dX8_writes_28 ex7 ?_
  refine sp_bipush (pc := 31) (v := 10) dX8_writes_31 (by decide) ?_
  obtain ⟨x8, ex8, hf⟩ := ob hf
  refine sp_aI (pc := 33) dX8_writes_33 ex8 ?_
  obtain ⟨h9, eh9, hf⟩ := ob hf
  refine sp_wI (pc := 34) dX8_writes_34 eh9 (fun sz => ?_)
  refine sp_aload_n (pc := 35) dX8_writes_35 1 rfl ?_
  obtain ⟨x10, ex10, hf⟩ := ob hf
  refine sp_gR (pc := 36) fl_RX8_7 dX8_writes_36 ex10 ?_
  refine sp_iload (pc := 39) dX8_writes_39 0 rfl ?_
  refine sp_iconst (pc := 41) (v := 1) dX8_writes_41 (by decide) ?_
  obtain ⟨y11, ey11, hf⟩ := ob hf
  refine sp_callSi (pc := 42) (z := M_X8_of) (As := [.int y1, .int 1]) (bc2 := bc) (bs2 := bs) (m_X8_of (Q := _) (fun sz => ⟨y11, rfl, ?_⟩) ey11) rfl dX8_writes_42 rfl ck_X8_writes_50 (Nat.le_of_ble_eq_true rfl) rfl rfl rfl
  refine sp_iload_n (pc := 45) dX8_writes_45 2 rfl ?_
  obtain ⟨h12, eh12, hf⟩ := ob hf
  refine sp_wI (pc := 46) dX8_writes_46 eh12 (fun sz => ?_)
  refine sp_aload_n (pc := 47) dX8_writes_47 1 rfl ?_
  obtain ⟨x13, ex13, hf⟩ := ob hf
  refine sp_gR (pc := 48) fl_RX8_7 dX8_writes_48 ex13 ?_
  refine sp_iload (pc := 51) dX8_writes_51 0 rfl ?_
  refine sp_iconst (pc := 53) (v := 2) dX8_writes_53 (by decide) ?_
  obtain ⟨y14, ey14, hf⟩ := ob hf
  refine sp_callSi (pc := 54) (z := M_X8_of) (As := [.int y1, .int 2]) (bc2 := bc) (bs2 := bs) (m_X8_of (Q := _) (fun sz => ⟨y14, rfl, ?_⟩) ey14) rfl dX8_writes_54 rfl ck_X8_writes_50 (Nat.le_of_ble_eq_true rfl) rfl rfl rfl
  refine sp_iload_n (pc := 57) dX8_writes_57 3 rfl ?_
  obtain ⟨h15, eh15, hf⟩ := ob hf
  refine sp_wI (pc := 58) dX8_writes_58 eh15 (fun sz => ?_)
  refine sp_aload_n (pc := 59) dX8_writes_59 1 rfl ?_
  obtain ⟨x16, ex16, hf⟩ := ob hf
  refine sp_gR (pc := 60) fl_RX8_7 dX8_writes_60 ex16 ?_
  refine sp_iload (pc := 63) dX8_writes_63 0 rfl ?_
  refine sp_iconst (pc := 65) (v := 3) dX8_writes_65 (by decide) ?_
  obtain ⟨y17, ey17, hf⟩ := ob hf
  refine sp_callSi (pc := 66) (z := M_X8_of) (As := [.int y1, .int 3]) (bc2 := bc) (bs2 := bs) (m_X8_of (Q := _) (fun sz => ⟨y17, rfl, ?_⟩) ey17) rfl dX8_writes_66 rfl ck_X8_writes_50 (Nat.le_of_ble_eq_true rfl) rfl rfl rfl
  refine sp_iload_n (pc := 69) dX8_writes_69 4 rfl ?_
  obtain ⟨h18, eh18, hf⟩ := ob hf
  refine sp_wI (pc := 70) dX8_writes_70 eh18 (fun sz => ?_)
  refine sp_aload_n (pc := 71) dX8_writes_71 1 rfl ?_
  obtain ⟨x19, ex19, hf⟩ := ob hf
  refine sp_gR (pc := 72) fl_RX8_7 dX8_writes_72 ex19 ?_
  refine sp_bipush (pc := 75) (v := 6) dX8_writes_75 (by decide) ?_
  refine sp_dup2 (pc := 77) dX8_writes_77 rfl rfl ?_
  obtain ⟨x20, ex20, hf⟩ := ob hf
  refine sp_aI (pc := 78) dX8_writes_78 ex20 ?_
  refine sp_iconst (pc := 79) (v := 1) dX8_writes_79 (by decide) ?_
  refine sp_iadd (pc := 80) dX8_writes_80 ?_
  obtain ⟨h21, eh21, hf⟩ := ob hf
  refine sp_wI (pc := 81) dX8_writes_81 eh21 (fun sz => ?_)
  refine sp_aload_n (pc := 82) dX8_writes_82 1 rfl ?_
  obtain ⟨x22, ex22, hf⟩ := ob hf
  refine sp_gR (pc := 83) fl_RX8_7 dX8_writes_83 ex22 ?_
  refine sp_bipush (pc := 86) (v := 10) dX8_writes_86 (by decide) ?_
  obtain ⟨x23, ex23, hf⟩ := ob hf
  refine sp_aI (pc := 88) dX8_writes_88 ex23 ?_
  obtain rfl := Option.some.inj hf
  exact sp_ireturn (pc := 89) dX8_writes_89 rfl rfl (hQ _)

theorem o_X8_writes {h : HP} {v0 : Nat} {v1 : Int32} {v2 : Int32} {v3 : Int32} {res : Int32 × HP} (hf : f_X8_writes h v0 v1 v2 v3 = some res) : ∃ fs, h v0 = some (.inr (8, fs)) := by
  obtain ⟨u, eu, -⟩ := ob hf
  exact kO_spec eu

theorem m_X8_writes {l : Launch} {Q : PST} {h : HP} {v0 : Nat} {v1 : Int32} {v2 : Int32} {v3 : Int32} {sz : Nat} {res : Int32 × HP} (hQ : ∀ sz', Q (.inl (some (.int res.1))) res.2 sz') (hf : f_X8_writes h v0 v1 v2 v3 = some res) : MM l M_X8_writes [.ref v0, .int v1, .int v2, .int v3] h sz Q := by
  obtain ⟨u, eu, hf⟩ := ob hf
  exact MM_of wok_X8_writes (by decide +kernel) (Nat.le_of_ble_eq_true rfl) ((w_X8_writes_0 hQ hf))

theorem dX8_buryFault_0 : decode (mB M_X8_buryFault) 0 = .ok (.iload_n 1, 1) := by decide +kernel
theorem dX8_buryFault_1 : decode (mB M_X8_buryFault) 1 = .ok (.invokestatic 97, 3) := by decide +kernel
theorem dX8_buryFault_4 : decode (mB M_X8_buryFault) 4 = .ok (.ifCond .eq 10, 3) := by decide +kernel
theorem dX8_buryFault_7 : decode (mB M_X8_buryFault) 7 = .ok (.iload_n 2, 1) := by decide +kernel
theorem dX8_buryFault_8 : decode (mB M_X8_buryFault) 8 = .ok (.invokestatic 97, 3) := by decide +kernel
theorem dX8_buryFault_11 : decode (mB M_X8_buryFault) 11 = .ok (.ifCond .ne 7, 3) := by decide +kernel
theorem dX8_buryFault_14 : decode (mB M_X8_buryFault) 14 = .ok (.iconst 1, 1) := by decide +kernel
theorem dX8_buryFault_15 : decode (mB M_X8_buryFault) 15 = .ok (.goto 26, 3) := by decide +kernel
theorem dX8_buryFault_18 : decode (mB M_X8_buryFault) 18 = .ok (.iload_n 2, 1) := by decide +kernel
theorem dX8_buryFault_19 : decode (mB M_X8_buryFault) 19 = .ok (.iload_n 1, 1) := by decide +kernel
theorem dX8_buryFault_20 : decode (mB M_X8_buryFault) 20 = .ok (.if_icmp .ge 7, 3) := by decide +kernel
theorem dX8_buryFault_23 : decode (mB M_X8_buryFault) 23 = .ok (.iconst 2, 1) := by decide +kernel
theorem dX8_buryFault_24 : decode (mB M_X8_buryFault) 24 = .ok (.goto 17, 3) := by decide +kernel
theorem dX8_buryFault_27 : decode (mB M_X8_buryFault) 27 = .ok (.aload_n 0, 1) := by decide +kernel
theorem dX8_buryFault_28 : decode (mB M_X8_buryFault) 28 = .ok (.invokevirtual 54, 3) := by decide +kernel
theorem dX8_buryFault_31 : decode (mB M_X8_buryFault) 31 = .ok (.bipush 48, 2) := by decide +kernel
theorem dX8_buryFault_33 : decode (mB M_X8_buryFault) 33 = .ok (.if_icmp .ne 7, 3) := by decide +kernel
theorem dX8_buryFault_36 : decode (mB M_X8_buryFault) 36 = .ok (.iconst 3, 1) := by decide +kernel
theorem dX8_buryFault_37 : decode (mB M_X8_buryFault) 37 = .ok (.goto 4, 3) := by decide +kernel
theorem dX8_buryFault_40 : decode (mB M_X8_buryFault) 40 = .ok (.iconst 0, 1) := by decide +kernel
theorem dX8_buryFault_41 : decode (mB M_X8_buryFault) 41 = .ok (.ireturn, 1) := by decide +kernel
def b_X8_buryFault_0 (h : HP) (v0 : Nat) (v1 : Int32) (v2 : Int32) : Option (Int32) :=
  (f_X8_isKey h v1).bind fun y1 => if y1 = 0 then some (1) else (f_X8_isKey h v2).bind fun y3 => if y3 = 0 then some (1) else if v1 ≤ v2 then (f_X8_all h v0).bind fun y6 => if y6 = 48 then some (3) else some (0) else some (2)
def f_X8_buryFault (h : HP) (v0 : Nat) (v1 : Int32) (v2 : Int32) : Option (Int32) := (kO 8 h v0).bind fun _ => b_X8_buryFault_0 h v0 v1 v2
theorem w_X8_buryFault_0 {l : Launch} {X : SCR} {Q : PST} {bc bs : Nat} {res : Int32} {h : HP} (hQ : ∀ sz', Q (.inl (some (.int res))) h sz') {v0 : Nat} {v1 : Int32} {v2 : Int32} {sz : Nat} (hf : b_X8_buryFault_0 h v0 v1 v2  = some res) : SP l X M_X8_buryFault 0 [(0, .ref v0), (1, .int v1), (2, .int v2)] [] h sz bc bs Q := by
  rw [b_X8_buryFault_0] at hf
  refine sp_iload_n (pc := 0) dX8_buryFault_0 1 rfl ?_
  obtain ⟨y1, ey1, hf⟩ := ob hf
  refine sp_callSi (pc := 1) (z := M_X8_isKey) (As := [.int v1]) (bc2 := bc) (bs2 := bs) (m_X8_isKey (Q := _) (fun sz => ⟨y1, rfl, ?_⟩) ey1) rfl dX8_buryFault_1 rfl ck_X8_buryFault_97 (Nat.le_of_ble_eq_true rfl) rfl rfl rfl
  refine sp_if_eq (pc := 4) (tgt := 14) dX8_buryFault_4 (by decide) (fun c2 => ?_) (fun c2 => ?_)
  · rw [if_pos c2] at hf
    refine sp_iconst (pc := 14) (v := 1) dX8_buryFault_14 (by decide) ?_
    refine sp_goto (pc := 15) (tgt := 41) dX8_buryFault_15 (by decide) ?_
    obtain rfl := Option.some.inj hf
    exact sp_ireturn (pc := 41) dX8_buryFault_41 rfl rfl (hQ _)
  · rw [if_neg c2] at hf
    refine sp_iload_n (pc := 7) dX8_buryFault_7 2 rfl ?_
    obtain ⟨y3, ey3, hf⟩ := ob hf
    refine sp_callSi (pc := 8) (z := M_X8_isKey) (As := [.int v2]) (bc2 := bc) (bs2 := bs) (m_X8_isKey (Q := _) (fun sz => ⟨y3, rfl, ?_⟩) ey3) rfl dX8_buryFault_8 rfl ck_X8_buryFault_97 (Nat.le_of_ble_eq_true rfl) rfl rfl rfl
    refine sp_if_ne (pc := 11) (tgt := 18) dX8_buryFault_11 (by decide) (fun c4 => ?_) (fun c4 => ?_)
    · rw [if_neg c4] at hf
      refine sp_iload_n (pc := 18) dX8_buryFault_18 2 rfl ?_
      refine sp_iload_n (pc := 19) dX8_buryFault_19 1 rfl ?_
      refine sp_icmp_ge (pc := 20) (tgt := 27) dX8_buryFault_20 (by decide) (fun c5 => ?_) (fun c5 => ?_)
      · rw [if_pos c5] at hf
        refine sp_aload_n (pc := 27) dX8_buryFault_27 0 rfl ?_
        obtain ⟨y6, ey6, hf⟩ := ob hf
        obtain ⟨fsy6, hoy6⟩ := o_X8_all ey6
        refine sp_callVi (pc := 28) (z := M_X8_all) (As := []) (b := v0) (bc2 := bc) (bs2 := bs) (m_X8_all (Q := _) (fun sz => ⟨y6, rfl, ?_⟩) ey6) rfl dX8_buryFault_28 hoy6 rfl rfl ck_X8_buryFault_54 (Nat.le_of_ble_eq_true rfl) rfl rfl rfl
        refine sp_bipush (pc := 31) (v := 48) dX8_buryFault_31 (by decide) ?_
        refine sp_icmp_ne (pc := 33) (tgt := 40) dX8_buryFault_33 (by decide) (fun c7 => ?_) (fun c7 => ?_)
        · rw [if_neg c7] at hf
          refine sp_iconst (pc := 40) (v := 0) dX8_buryFault_40 (by decide) ?_
          obtain rfl := Option.some.inj hf
          exact sp_ireturn (pc := 41) dX8_buryFault_41 rfl rfl (hQ _)
        · rw [if_pos c7] at hf
          refine sp_iconst (pc := 36) (v := 3) dX8_buryFault_36 (by decide) ?_
          refine sp_goto (pc := 37) (tgt := 41) dX8_buryFault_37 (by decide) ?_
          obtain rfl := Option.some.inj hf
          exact sp_ireturn (pc := 41) dX8_buryFault_41 rfl rfl (hQ _)
      · rw [if_neg c5] at hf
        refine sp_iconst (pc := 23) (v := 2) dX8_buryFault_23 (by decide) ?_
        refine sp_goto (pc := 24) (tgt := 41) dX8_buryFault_24 (by decide) ?_
        obtain rfl := Option.some.inj hf
        exact sp_ireturn (pc := 41) dX8_buryFault_41 rfl rfl (hQ _)
    · rw [if_pos c4] at hf
      refine sp_iconst (pc := 14) (v := 1) dX8_buryFault_14 (by decide) ?_
      refine sp_goto (pc := 15) (tgt := 41) dX8_buryFault_15 (by decide) ?_
      obtain rfl := Option.some.inj hf
      exact sp_ireturn (pc := 41) dX8_buryFault_41 rfl rfl (hQ _)

theorem o_X8_buryFault {h : HP} {v0 : Nat} {v1 : Int32} {v2 : Int32} {res : Int32} (hf : f_X8_buryFault h v0 v1 v2 = some res) : ∃ fs, h v0 = some (.inr (8, fs)) := by
  obtain ⟨u, eu, -⟩ := ob hf
  exact kO_spec eu

theorem m_X8_buryFault {l : Launch} {Q : PST} {h : HP} {v0 : Nat} {v1 : Int32} {v2 : Int32} {sz : Nat} {res : Int32} (hQ : ∀ sz', Q (.inl (some (.int res))) h sz') (hf : f_X8_buryFault h v0 v1 v2 = some res) : MM l M_X8_buryFault [.ref v0, .int v1, .int v2] h sz Q := by
  obtain ⟨u, eu, hf⟩ := ob hf
  exact MM_of wok_X8_buryFault (by decide +kernel) (Nat.le_of_ble_eq_true rfl) ((w_X8_buryFault_0 hQ hf))

theorem dX8_buries_0 : decode (mB M_X8_buries) 0 = .ok (.aload_n 0, 1) := by decide +kernel
theorem dX8_buries_1 : decode (mB M_X8_buries) 1 = .ok (.iload_n 1, 1) := by decide +kernel
theorem dX8_buries_2 : decode (mB M_X8_buries) 2 = .ok (.iload_n 2, 1) := by decide +kernel
theorem dX8_buries_3 : decode (mB M_X8_buries) 3 = .ok (.iconst (-1), 1) := by decide +kernel
theorem dX8_buries_4 : decode (mB M_X8_buries) 4 = .ok (.invokevirtual 100, 3) := by decide +kernel
theorem dX8_buries_7 : decode (mB M_X8_buries) 7 = .ok (.istore_n 3, 1) := by decide +kernel
theorem dX8_buries_8 : decode (mB M_X8_buries) 8 = .ok (.aload_n 0, 1) := by decide +kernel
theorem dX8_buries_9 : decode (mB M_X8_buries) 9 = .ok (.iload_n 1, 1) := by decide +kernel
theorem dX8_buries_10 : decode (mB M_X8_buries) 10 = .ok (.iload_n 2, 1) := by decide +kernel
theorem dX8_buries_11 : decode (mB M_X8_buries) 11 = .ok (.iconst 0, 1) := by decide +kernel
theorem dX8_buries_12 : decode (mB M_X8_buries) 12 = .ok (.invokevirtual 104, 3) := by decide +kernel
theorem dX8_buries_15 : decode (mB M_X8_buries) 15 = .ok (.istore 4, 2) := by decide +kernel
theorem dX8_buries_17 : decode (mB M_X8_buries) 17 = .ok (.iload_n 3, 1) := by decide +kernel
theorem dX8_buries_18 : decode (mB M_X8_buries) 18 = .ok (.ireturn, 1) := by decide +kernel
def b_X8_buries_0 (v0 : Nat) (v1 : Int32) (v2 : Int32) (h : HP) : Option (Int32 × HP) :=
  (f_X8_countSeen h v0 v1 v2 (-1)).bind fun y1 => (f_X8_writes h v0 v1 v2 0).bind fun y2 => some (y1, y2.2)
def f_X8_buries (h : HP) (v0 : Nat) (v1 : Int32) (v2 : Int32) : Option (Int32 × HP) := (kO 8 h v0).bind fun _ => b_X8_buries_0 v0 v1 v2 h
theorem w_X8_buries_0 {l : Launch} {X : SCR} {Q : PST} {bc bs : Nat} {res : Int32 × HP} {h : HP} (hQ : ∀ sz', Q (.inl (some (.int res.1))) res.2 sz') {v0 : Nat} {v1 : Int32} {v2 : Int32} {sz : Nat} (hf : b_X8_buries_0 v0 v1 v2 h  = some res) : SP l X M_X8_buries 0 [(0, .ref v0), (1, .int v1), (2, .int v2)] [] h sz bc bs Q := by
  rw [b_X8_buries_0] at hf
  refine sp_aload_n (pc := 0) dX8_buries_0 0 rfl ?_
  refine sp_iload_n (pc := 1) dX8_buries_1 1 rfl ?_
  refine sp_iload_n (pc := 2) dX8_buries_2 2 rfl ?_
  refine sp_iconst (pc := 3) (v := (-1)) dX8_buries_3 (by decide) ?_
  obtain ⟨y1, ey1, hf⟩ := ob hf
  obtain ⟨fsy1, hoy1⟩ := o_X8_countSeen ey1
  refine sp_callVi (pc := 4) (z := M_X8_countSeen) (As := [.int v1, .int v2, .int (-1)]) (b := v0) (bc2 := bc) (bs2 := bs) (m_X8_countSeen (Q := _) (fun sz => ⟨y1, rfl, ?_⟩) ey1) rfl dX8_buries_4 hoy1 rfl rfl ck_X8_buries_100 (Nat.le_of_ble_eq_true rfl) rfl rfl rfl
  refine sp_istore_n (pc := 7) (lv' := [(3, .int y1), (0, .ref v0), (1, .int v1), (2, .int v2)]) dX8_buries_7 (by decide) rfl ?_
  refine sp_aload_n (pc := 8) dX8_buries_8 1 rfl ?_
  refine sp_iload_n (pc := 9) dX8_buries_9 2 rfl ?_
  refine sp_iload_n (pc := 10) dX8_buries_10 3 rfl ?_
  refine sp_iconst (pc := 11) (v := 0) dX8_buries_11 (by decide) ?_
  obtain ⟨y2, ey2, hf⟩ := ob hf
  obtain ⟨fsy2, hoy2⟩ := o_X8_writes ey2
  refine sp_callVi (pc := 12) (z := M_X8_writes) (As := [.int v1, .int v2, .int 0]) (b := v0) (bc2 := bc) (bs2 := bs) (m_X8_writes (Q := _) (fun sz => ⟨y2.1, rfl, ?_⟩) ey2) rfl dX8_buries_12 hoy2 rfl rfl ck_X8_buries_104 (Nat.le_of_ble_eq_true rfl) rfl rfl rfl
  refine sp_istore (pc := 15) (lv' := [(4, .int y2.1), (3, .int y1), (0, .ref v0), (1, .int v1), (2, .int v2)]) dX8_buries_15 (by decide) rfl ?_
  refine sp_iload_n (pc := 17) dX8_buries_17 1 rfl ?_
  obtain rfl := Option.some.inj hf
  exact sp_ireturn (pc := 18) dX8_buries_18 rfl rfl (hQ _)

theorem o_X8_buries {h : HP} {v0 : Nat} {v1 : Int32} {v2 : Int32} {res : Int32 × HP} (hf : f_X8_buries h v0 v1 v2 = some res) : ∃ fs, h v0 = some (.inr (8, fs)) := by
  obtain ⟨u, eu, -⟩ := ob hf
  exact kO_spec eu

theorem m_X8_buries {l : Launch} {Q : PST} {h : HP} {v0 : Nat} {v1 : Int32} {v2 : Int32} {sz : Nat} {res : Int32 × HP} (hQ : ∀ sz', Q (.inl (some (.int res.1))) res.2 sz') (hf : f_X8_buries h v0 v1 v2 = some res) : MM l M_X8_buries [.ref v0, .int v1, .int v2] h sz Q := by
  obtain ⟨u, eu, hf⟩ := ob hf
  exact MM_of wok_X8_buries (by decide +kernel) (Nat.le_of_ble_eq_true rfl) ((w_X8_buries_0 hQ hf))

theorem dX8_opens_0 : decode (mB M_X8_opens) 0 = .ok (.aload_n 0, 1) := by decide +kernel
theorem dX8_opens_1 : decode (mB M_X8_opens) 1 = .ok (.getfield 7, 3) := by decide +kernel
theorem dX8_opens_4 : decode (mB M_X8_opens) 4 = .ok (.bipush 8, 2) := by decide +kernel
theorem dX8_opens_6 : decode (mB M_X8_opens) 6 = .ok (.aload_n 0, 1) := by decide +kernel
theorem dX8_opens_7 : decode (mB M_X8_opens) 7 = .ok (.getfield 7, 3) := by decide +kernel
theorem dX8_opens_10 : decode (mB M_X8_opens) 10 = .ok (.bipush 7, 2) := by decide +kernel
theorem dX8_opens_12 : decode (mB M_X8_opens) 12 = .ok (.iaload, 1) := by decide +kernel
theorem dX8_opens_13 : decode (mB M_X8_opens) 13 = .ok (.iadd, 1) := by decide +kernel
theorem dX8_opens_14 : decode (mB M_X8_opens) 14 = .ok (.aload_n 0, 1) := by decide +kernel
theorem dX8_opens_15 : decode (mB M_X8_opens) 15 = .ok (.getfield 7, 3) := by decide +kernel
theorem dX8_opens_18 : decode (mB M_X8_opens) 18 = .ok (.bipush 10, 2) := by decide +kernel
theorem dX8_opens_20 : decode (mB M_X8_opens) 20 = .ok (.iaload, 1) := by decide +kernel
theorem dX8_opens_21 : decode (mB M_X8_opens) 21 = .ok (.iastore, 1) := by decide +kernel
theorem dX8_opens_22 : decode (mB M_X8_opens) 22 = .ok (.aload_n 0, 1) := by decide +kernel
theorem dX8_opens_23 : decode (mB M_X8_opens) 23 = .ok (.getfield 7, 3) := by decide +kernel
theorem dX8_opens_26 : decode (mB M_X8_opens) 26 = .ok (.bipush 7, 2) := by decide +kernel
theorem dX8_opens_28 : decode (mB M_X8_opens) 28 = .ok (.dup2, 1) := by decide +kernel
theorem dX8_opens_29 : decode (mB M_X8_opens) 29 = .ok (.iaload, 1) := by decide +kernel
theorem dX8_opens_30 : decode (mB M_X8_opens) 30 = .ok (.iconst 1, 1) := by decide +kernel
theorem dX8_opens_31 : decode (mB M_X8_opens) 31 = .ok (.iadd, 1) := by decide +kernel
theorem dX8_opens_32 : decode (mB M_X8_opens) 32 = .ok (.iastore, 1) := by decide +kernel
theorem dX8_opens_33 : decode (mB M_X8_opens) 33 = .ok (.aload_n 0, 1) := by decide +kernel
theorem dX8_opens_34 : decode (mB M_X8_opens) 34 = .ok (.getfield 7, 3) := by decide +kernel
theorem dX8_opens_37 : decode (mB M_X8_opens) 37 = .ok (.bipush 7, 2) := by decide +kernel
theorem dX8_opens_39 : decode (mB M_X8_opens) 39 = .ok (.iaload, 1) := by decide +kernel
theorem dX8_opens_40 : decode (mB M_X8_opens) 40 = .ok (.iconst 1, 1) := by decide +kernel
theorem dX8_opens_41 : decode (mB M_X8_opens) 41 = .ok (.isub, 1) := by decide +kernel
theorem dX8_opens_42 : decode (mB M_X8_opens) 42 = .ok (.ireturn, 1) := by decide +kernel
def b_X8_opens_0 (v0 : Nat) (h : HP) : Option (Int32 × HP) :=
  (gR 8 1 h v0).bind fun x1 => (gR 8 1 h v0).bind fun x2 => (aI h x2 7).bind fun x3 => (gR 8 1 h v0).bind fun x4 => (aI h x4 10).bind fun x5 => (wI h x1 (8 + x3) x5).bind fun h6 => (gR 8 1 h6 v0).bind fun x7 => (aI h6 x7 7).bind fun x8 => (wI h6 x7 7 (x8 + 1)).bind fun h9 => (gR 8 1 h9 v0).bind fun x10 => (aI h9 x10 7).bind fun x11 => some (x11 - 1, h9)
def f_X8_opens (h : HP) (v0 : Nat) : Option (Int32 × HP) := (kO 8 h v0).bind fun _ => b_X8_opens_0 v0 h
theorem w_X8_opens_0 {l : Launch} {X : SCR} {Q : PST} {bc bs : Nat} {res : Int32 × HP} {h : HP} (hQ : ∀ sz', Q (.inl (some (.int res.1))) res.2 sz') {v0 : Nat} {sz : Nat} (hf : b_X8_opens_0 v0 h  = some res) : SP l X M_X8_opens 0 [(0, .ref v0)] [] h sz bc bs Q := by
  rw [b_X8_opens_0] at hf
  refine sp_aload_n (pc := 0) dX8_opens_0 0 rfl ?_
  obtain ⟨x1, ex1, hf⟩ := ob hf
  refine sp_gR (pc := 1) fl_RX8_7 dX8_opens_1 ex1 ?_
  refine sp_bipush (pc := 4) (v := 8) dX8_opens_4 (by decide) ?_
  refine sp_aload_n (pc := 6) dX8_opens_6 0 rfl ?_
  obtain ⟨x2, ex2, hf⟩ := ob hf
  refine sp_gR (pc := 7) fl_RX8_7 dX8_opens_7 ex2 ?_
  refine sp_bipush (pc := 10) (v := 7) dX8_opens_10 (by decide) ?_
  obtain ⟨x3, ex3, hf⟩ := ob hf
  refine sp_aI (pc := 12) dX8_opens_12 ex3 ?_
  refine sp_iadd (pc := 13) dX8_opens_13 ?_
  refine sp_aload_n (pc := 14) dX8_opens_14 0 rfl ?_
  obtain ⟨x4, ex4, hf⟩ := ob hf
  refine sp_gR (pc := 15) fl_RX8_7 dX8_opens_15 ex4 ?_
  refine sp_bipush (pc := 18) (v := 10) dX8_opens_18 (by decide) ?_
  obtain ⟨x5, ex5, hf⟩ := ob hf
  refine sp_aI (pc := 20) dX8_opens_20 ex5 ?_
  obtain ⟨h6, eh6, hf⟩ := ob hf
  refine sp_wI (pc := 21) dX8_opens_21 eh6 (fun sz => ?_)
  refine sp_aload_n (pc := 22) dX8_opens_22 0 rfl ?_
  obtain ⟨x7, ex7, hf⟩ := ob hf
  refine sp_gR (pc := 23) fl_RX8_7 dX8_opens_23 ex7 ?_
  refine sp_bipush (pc := 26) (v := 7) dX8_opens_26 (by decide) ?_
  refine sp_dup2 (pc := 28) dX8_opens_28 rfl rfl ?_
  obtain ⟨x8, ex8, hf⟩ := ob hf
  refine sp_aI (pc := 29) dX8_opens_29 ex8 ?_
  refine sp_iconst (pc := 30) (v := 1) dX8_opens_30 (by decide) ?_
  refine sp_iadd (pc := 31) dX8_opens_31 ?_
  obtain ⟨h9, eh9, hf⟩ := ob hf
  refine sp_wI (pc := 32) dX8_opens_32 eh9 (fun sz => ?_)
  refine sp_aload_n (pc := 33) dX8_opens_33 0 rfl ?_
  obtain ⟨x10, ex10, hf⟩ := ob hf
  refine sp_gR (pc := 34) fl_RX8_7 dX8_opens_34 ex10 ?_
  refine sp_bipush (pc := 37) (v := 7) dX8_opens_37 (by decide) ?_
  obtain ⟨x11, ex11, hf⟩ := ob hf
  refine sp_aI (pc := 39) dX8_opens_39 ex11 ?_
  refine sp_iconst (pc := 40) (v := 1) dX8_opens_40 (by decide) ?_
  refine sp_isub (pc := 41) dX8_opens_41 ?_
  obtain rfl := Option.some.inj hf
  exact sp_ireturn (pc := 42) dX8_opens_42 rfl rfl (hQ _)

theorem o_X8_opens {h : HP} {v0 : Nat} {res : Int32 × HP} (hf : f_X8_opens h v0 = some res) : ∃ fs, h v0 = some (.inr (8, fs)) := by
  obtain ⟨u, eu, -⟩ := ob hf
  exact kO_spec eu

theorem m_X8_opens {l : Launch} {Q : PST} {h : HP} {v0 : Nat} {sz : Nat} {res : Int32 × HP} (hQ : ∀ sz', Q (.inl (some (.int res.1))) res.2 sz') (hf : f_X8_opens h v0 = some res) : MM l M_X8_opens [.ref v0] h sz Q := by
  obtain ⟨u, eu, hf⟩ := ob hf
  exact MM_of wok_X8_opens (by decide +kernel) (Nat.le_of_ble_eq_true rfl) ((w_X8_opens_0 hQ hf))

theorem dX8_closes_0 : decode (mB M_X8_closes) 0 = .ok (.aload_n 0, 1) := by decide +kernel
theorem dX8_closes_1 : decode (mB M_X8_closes) 1 = .ok (.getfield 7, 3) := by decide +kernel
theorem dX8_closes_4 : decode (mB M_X8_closes) 4 = .ok (.bipush 7, 2) := by decide +kernel
theorem dX8_closes_6 : decode (mB M_X8_closes) 6 = .ok (.dup2, 1) := by decide +kernel
theorem dX8_closes_7 : decode (mB M_X8_closes) 7 = .ok (.iaload, 1) := by decide +kernel
theorem dX8_closes_8 : decode (mB M_X8_closes) 8 = .ok (.iconst 1, 1) := by decide +kernel
theorem dX8_closes_9 : decode (mB M_X8_closes) 9 = .ok (.isub, 1) := by decide +kernel
theorem dX8_closes_10 : decode (mB M_X8_closes) 10 = .ok (.iastore, 1) := by decide +kernel
theorem dX8_closes_11 : decode (mB M_X8_closes) 11 = .ok (.aload_n 0, 1) := by decide +kernel
theorem dX8_closes_12 : decode (mB M_X8_closes) 12 = .ok (.getfield 7, 3) := by decide +kernel
theorem dX8_closes_15 : decode (mB M_X8_closes) 15 = .ok (.bipush 8, 2) := by decide +kernel
theorem dX8_closes_17 : decode (mB M_X8_closes) 17 = .ok (.iload_n 1, 1) := by decide +kernel
theorem dX8_closes_18 : decode (mB M_X8_closes) 18 = .ok (.iadd, 1) := by decide +kernel
theorem dX8_closes_19 : decode (mB M_X8_closes) 19 = .ok (.iload_n 1, 1) := by decide +kernel
theorem dX8_closes_20 : decode (mB M_X8_closes) 20 = .ok (.aload_n 0, 1) := by decide +kernel
theorem dX8_closes_21 : decode (mB M_X8_closes) 21 = .ok (.getfield 7, 3) := by decide +kernel
theorem dX8_closes_24 : decode (mB M_X8_closes) 24 = .ok (.bipush 7, 2) := by decide +kernel
theorem dX8_closes_26 : decode (mB M_X8_closes) 26 = .ok (.iaload, 1) := by decide +kernel
theorem dX8_closes_27 : decode (mB M_X8_closes) 27 = .ok (.if_icmp .ge 17, 3) := by decide +kernel
theorem dX8_closes_30 : decode (mB M_X8_closes) 30 = .ok (.aload_n 0, 1) := by decide +kernel
theorem dX8_closes_31 : decode (mB M_X8_closes) 31 = .ok (.getfield 7, 3) := by decide +kernel
theorem dX8_closes_34 : decode (mB M_X8_closes) 34 = .ok (.bipush 8, 2) := by decide +kernel
theorem dX8_closes_36 : decode (mB M_X8_closes) 36 = .ok (.iload_n 1, 1) := by decide +kernel
theorem dX8_closes_37 : decode (mB M_X8_closes) 37 = .ok (.iadd, 1) := by decide +kernel
theorem dX8_closes_38 : decode (mB M_X8_closes) 38 = .ok (.iconst 1, 1) := by decide +kernel
theorem dX8_closes_39 : decode (mB M_X8_closes) 39 = .ok (.iadd, 1) := by decide +kernel
theorem dX8_closes_40 : decode (mB M_X8_closes) 40 = .ok (.iaload, 1) := by decide +kernel
theorem dX8_closes_41 : decode (mB M_X8_closes) 41 = .ok (.goto 12, 3) := by decide +kernel
theorem dX8_closes_44 : decode (mB M_X8_closes) 44 = .ok (.aload_n 0, 1) := by decide +kernel
theorem dX8_closes_45 : decode (mB M_X8_closes) 45 = .ok (.getfield 7, 3) := by decide +kernel
theorem dX8_closes_48 : decode (mB M_X8_closes) 48 = .ok (.bipush 8, 2) := by decide +kernel
theorem dX8_closes_50 : decode (mB M_X8_closes) 50 = .ok (.iload_n 1, 1) := by decide +kernel
theorem dX8_closes_51 : decode (mB M_X8_closes) 51 = .ok (.iadd, 1) := by decide +kernel
theorem dX8_closes_52 : decode (mB M_X8_closes) 52 = .ok (.iaload, 1) := by decide +kernel
theorem dX8_closes_53 : decode (mB M_X8_closes) 53 = .ok (.iastore, 1) := by decide +kernel
theorem dX8_closes_54 : decode (mB M_X8_closes) 54 = .ok (.aload_n 0, 1) := by decide +kernel
theorem dX8_closes_55 : decode (mB M_X8_closes) 55 = .ok (.getfield 7, 3) := by decide +kernel
theorem dX8_closes_58 : decode (mB M_X8_closes) 58 = .ok (.bipush 7, 2) := by decide +kernel
theorem dX8_closes_60 : decode (mB M_X8_closes) 60 = .ok (.iaload, 1) := by decide +kernel
theorem dX8_closes_61 : decode (mB M_X8_closes) 61 = .ok (.ireturn, 1) := by decide +kernel
def b_X8_closes_53 (v0 : Nat) (h : HP) (s0 : Nat) (s1 : Int32) (s2 : Int32) : Option (Int32 × HP) :=
  (wI h s0 s1 s2).bind fun h1 => (gR 8 1 h1 v0).bind fun x2 => (aI h1 x2 7).bind fun x3 => some (x3, h1)
def b_X8_closes_0 (v0 : Nat) (v1 : Int32) (h : HP) : Option (Int32 × HP) :=
  (gR 8 1 h v0).bind fun x1 => (aI h x1 7).bind fun x2 => (wI h x1 7 (x2 - 1)).bind fun h3 => (gR 8 1 h3 v0).bind fun x4 => (gR 8 1 h3 v0).bind fun x5 => (aI h3 x5 7).bind fun x6 => if x6 ≤ v1 then (gR 8 1 h3 v0).bind fun x8 => (aI h3 x8 (8 + v1)).bind fun x9 => b_X8_closes_53 v0 h3 x4 (8 + v1) x9 else (gR 8 1 h3 v0).bind fun x10 => (aI h3 x10 ((8 + v1) + 1)).bind fun x11 => b_X8_closes_53 v0 h3 x4 (8 + v1) x11
def f_X8_closes (h : HP) (v0 : Nat) (v1 : Int32) : Option (Int32 × HP) := (kO 8 h v0).bind fun _ => b_X8_closes_0 v0 v1 h
theorem w_X8_closes_53 {l : Launch} {X : SCR} {Q : PST} {bc bs : Nat} {res : Int32 × HP} {h : HP} (hQ : ∀ sz', Q (.inl (some (.int res.1))) res.2 sz') {v0 : Nat} {s0 : Nat} {s1 : Int32} {s2 : Int32} {sz : Nat} (hf : b_X8_closes_53 v0 h s0 s1 s2 = some res) : SP l X M_X8_closes 53 [(0, .ref v0)] [.int s2, .int s1, .ref s0] h sz bc bs Q := by
  rw [b_X8_closes_53] at hf
  obtain ⟨h1, eh1, hf⟩ := ob hf
  refine sp_wI (pc := 53) dX8_closes_53 eh1 (fun sz => ?_)
  refine sp_aload_n (pc := 54) dX8_closes_54 0 rfl ?_
  obtain ⟨x2, ex2, hf⟩ := ob hf
  refine sp_gR (pc := 55) fl_RX8_7 dX8_closes_55 ex2 ?_
  refine sp_bipush (pc := 58) (v := 7) dX8_closes_58 (by decide) ?_
  obtain ⟨x3, ex3, hf⟩ := ob hf
  refine sp_aI (pc := 60) dX8_closes_60 ex3 ?_
  obtain rfl := Option.some.inj hf
  exact sp_ireturn (pc := 61) dX8_closes_61 rfl rfl (hQ _)

theorem w_X8_closes_0 {l : Launch} {X : SCR} {Q : PST} {bc bs : Nat} {res : Int32 × HP} {h : HP} (hQ : ∀ sz', Q (.inl (some (.int res.1))) res.2 sz') {v0 : Nat} {v1 : Int32} {sz : Nat} (hf : b_X8_closes_0 v0 v1 h  = some res) : SP l X M_X8_closes 0 [(0, .ref v0), (1, .int v1)] [] h sz bc bs Q := by
  rw [b_X8_closes_0] at hf
  refine sp_aload_n (pc := 0) dX8_closes_0 0 rfl ?_
  obtain ⟨x1, ex1, hf⟩ := ob hf
  refine sp_gR (pc := 1) fl_RX8_7 dX8_closes_1 ex1 ?_
  refine sp_bipush (pc := 4) (v := 7) dX8_closes_4 (by decide) ?_
  refine sp_dup2 (pc := 6) dX8_closes_6 rfl rfl ?_
  obtain ⟨x2, ex2, hf⟩ := ob hf
  refine sp_aI (pc := 7) dX8_closes_7 ex2 ?_
  refine sp_iconst (pc := 8) (v := 1) dX8_closes_8 (by decide) ?_
  refine sp_isub (pc := 9) dX8_closes_9 ?_
  obtain ⟨h3, eh3, hf⟩ := ob hf
  refine sp_wI (pc := 10) dX8_closes_10 eh3 (fun sz => ?_)
  refine sp_aload_n (pc := 11) dX8_closes_11 0 rfl ?_
  obtain ⟨x4, ex4, hf⟩ := ob hf
  refine sp_gR (pc := 12) fl_RX8_7 dX8_closes_12 ex4 ?_
  refine sp_bipush (pc := 15) (v := 8) dX8_closes_15 (by decide) ?_
  refine sp_iload_n (pc := 17) dX8_closes_17 1 rfl ?_
  refine sp_iadd (pc := 18) dX8_closes_18 ?_
  refine sp_iload_n (pc := 19) dX8_closes_19 1 rfl ?_
  refine sp_aload_n (pc := 20) dX8_closes_20 0 rfl ?_
  obtain ⟨x5, ex5, hf⟩ := ob hf
  refine sp_gR (pc := 21) fl_RX8_7 dX8_closes_21 ex5 ?_
  refine sp_bipush (pc := 24) (v := 7) dX8_closes_24 (by decide) ?_
  obtain ⟨x6, ex6, hf⟩ := ob hf
  refine sp_aI (pc := 26) dX8_closes_26 ex6 ?_
  refine sp_icmp_ge (pc := 27) (tgt := 44) dX8_closes_27 (by decide) (fun c7 => ?_) (fun c7 => ?_)
  · rw [if_pos c7] at hf
    refine sp_aload_n (pc := 44) dX8_closes_44 0 rfl ?_
    obtain ⟨x8, ex8, hf⟩ := ob hf
    refine sp_gR (pc := 45) fl_RX8_7 dX8_closes_45 ex8 ?_
    refine sp_bipush (pc := 48) (v := 8) dX8_closes_48 (by decide) ?_
    refine sp_iload_n (pc := 50) dX8_closes_50 1 rfl ?_
    refine sp_iadd (pc := 51) dX8_closes_51 ?_
    obtain ⟨x9, ex9, hf⟩ := ob hf
    refine sp_aI (pc := 52) dX8_closes_52 ex9 ?_
    exact sp_sub [0] rfl (w_X8_closes_53 hQ hf)
  · rw [if_neg c7] at hf
    refine sp_aload_n (pc := 30) dX8_closes_30 0 rfl ?_
    obtain ⟨x10, ex10, hf⟩ := ob hf
    refine sp_gR (pc := 31) fl_RX8_7 dX8_closes_31 ex10 ?_
    refine sp_bipush (pc := 34) (v := 8) dX8_closes_34 (by decide) ?_
    refine sp_iload_n (pc := 36) dX8_closes_36 1 rfl ?_
    refine sp_iadd (pc := 37) dX8_closes_37 ?_
    refine sp_iconst (pc := 38) (v := 1) dX8_closes_38 (by decide) ?_
    refine sp_iadd (pc := 39) dX8_closes_39 ?_
    obtain ⟨x11, ex11, hf⟩ := ob hf
    refine sp_aI (pc := 40) dX8_closes_40 ex11 ?_
    refine sp_goto (pc := 41) (tgt := 53) dX8_closes_41 (by decide) ?_
    exact sp_sub [0] rfl (w_X8_closes_53 hQ hf)

theorem o_X8_closes {h : HP} {v0 : Nat} {v1 : Int32} {res : Int32 × HP} (hf : f_X8_closes h v0 v1 = some res) : ∃ fs, h v0 = some (.inr (8, fs)) := by
  obtain ⟨u, eu, -⟩ := ob hf
  exact kO_spec eu

theorem m_X8_closes {l : Launch} {Q : PST} {h : HP} {v0 : Nat} {v1 : Int32} {sz : Nat} {res : Int32 × HP} (hQ : ∀ sz', Q (.inl (some (.int res.1))) res.2 sz') (hf : f_X8_closes h v0 v1 = some res) : MM l M_X8_closes [.ref v0, .int v1] h sz Q := by
  obtain ⟨u, eu, hf⟩ := ob hf
  exact MM_of wok_X8_closes (by decide +kernel) (Nat.le_of_ble_eq_true rfl) ((w_X8_closes_0 hQ hf))

theorem dX8_flushFault_0 : decode (mB M_X8_flushFault) 0 = .ok (.aload_n 0, 1) := by decide +kernel
theorem dX8_flushFault_1 : decode (mB M_X8_flushFault) 1 = .ok (.getfield 7, 3) := by decide +kernel
theorem dX8_flushFault_4 : decode (mB M_X8_flushFault) 4 = .ok (.bipush 6, 2) := by decide +kernel
theorem dX8_flushFault_6 : decode (mB M_X8_flushFault) 6 = .ok (.iaload, 1) := by decide +kernel
theorem dX8_flushFault_7 : decode (mB M_X8_flushFault) 7 = .ok (.ifCond .eq 13, 3) := by decide +kernel
theorem dX8_flushFault_10 : decode (mB M_X8_flushFault) 10 = .ok (.aload_n 0, 1) := by decide +kernel
theorem dX8_flushFault_11 : decode (mB M_X8_flushFault) 11 = .ok (.getfield 7, 3) := by decide +kernel
theorem dX8_flushFault_14 : decode (mB M_X8_flushFault) 14 = .ok (.iconst 0, 1) := by decide +kernel
theorem dX8_flushFault_15 : decode (mB M_X8_flushFault) 15 = .ok (.iaload, 1) := by decide +kernel
theorem dX8_flushFault_16 : decode (mB M_X8_flushFault) 16 = .ok (.iconst 5, 1) := by decide +kernel
theorem dX8_flushFault_17 : decode (mB M_X8_flushFault) 17 = .ok (.if_icmp .ne 5, 3) := by decide +kernel
theorem dX8_flushFault_20 : decode (mB M_X8_flushFault) 20 = .ok (.iconst 1, 1) := by decide +kernel
theorem dX8_flushFault_21 : decode (mB M_X8_flushFault) 21 = .ok (.ireturn, 1) := by decide +kernel
theorem dX8_flushFault_22 : decode (mB M_X8_flushFault) 22 = .ok (.aload_n 0, 1) := by decide +kernel
theorem dX8_flushFault_23 : decode (mB M_X8_flushFault) 23 = .ok (.aload_n 0, 1) := by decide +kernel
theorem dX8_flushFault_24 : decode (mB M_X8_flushFault) 24 = .ok (.iconst (-1), 1) := by decide +kernel
theorem dX8_flushFault_25 : decode (mB M_X8_flushFault) 25 = .ok (.invokevirtual 46, 3) := by decide +kernel
theorem dX8_flushFault_28 : decode (mB M_X8_flushFault) 28 = .ok (.aload_n 0, 1) := by decide +kernel
theorem dX8_flushFault_29 : decode (mB M_X8_flushFault) 29 = .ok (.invokevirtual 54, 3) := by decide +kernel
theorem dX8_flushFault_32 : decode (mB M_X8_flushFault) 32 = .ok (.aload_n 0, 1) := by decide +kernel
theorem dX8_flushFault_33 : decode (mB M_X8_flushFault) 33 = .ok (.getfield 7, 3) := by decide +kernel
theorem dX8_flushFault_36 : decode (mB M_X8_flushFault) 36 = .ok (.iconst 0, 1) := by decide +kernel
theorem dX8_flushFault_37 : decode (mB M_X8_flushFault) 37 = .ok (.iaload, 1) := by decide +kernel
theorem dX8_flushFault_38 : decode (mB M_X8_flushFault) 38 = .ok (.ifCond .ne 7, 3) := by decide +kernel
theorem dX8_flushFault_41 : decode (mB M_X8_flushFault) 41 = .ok (.iconst 1, 1) := by decide +kernel
theorem dX8_flushFault_42 : decode (mB M_X8_flushFault) 42 = .ok (.goto 4, 3) := by decide +kernel
theorem dX8_flushFault_45 : decode (mB M_X8_flushFault) 45 = .ok (.iconst 0, 1) := by decide +kernel
theorem dX8_flushFault_46 : decode (mB M_X8_flushFault) 46 = .ok (.invokevirtual 107, 3) := by decide +kernel
theorem dX8_flushFault_49 : decode (mB M_X8_flushFault) 49 = .ok (.aload_n 0, 1) := by decide +kernel
theorem dX8_flushFault_50 : decode (mB M_X8_flushFault) 50 = .ok (.aload_n 0, 1) := by decide +kernel
theorem dX8_flushFault_51 : decode (mB M_X8_flushFault) 51 = .ok (.iconst (-1), 1) := by decide +kernel
theorem dX8_flushFault_52 : decode (mB M_X8_flushFault) 52 = .ok (.invokevirtual 46, 3) := by decide +kernel
theorem dX8_flushFault_55 : decode (mB M_X8_flushFault) 55 = .ok (.aload_n 0, 1) := by decide +kernel
theorem dX8_flushFault_56 : decode (mB M_X8_flushFault) 56 = .ok (.invokevirtual 54, 3) := by decide +kernel
theorem dX8_flushFault_59 : decode (mB M_X8_flushFault) 59 = .ok (.invokevirtual 111, 3) := by decide +kernel
theorem dX8_flushFault_62 : decode (mB M_X8_flushFault) 62 = .ok (.ifCond .eq 7, 3) := by decide +kernel
theorem dX8_flushFault_65 : decode (mB M_X8_flushFault) 65 = .ok (.iconst 0, 1) := by decide +kernel
theorem dX8_flushFault_66 : decode (mB M_X8_flushFault) 66 = .ok (.goto 4, 3) := by decide +kernel
theorem dX8_flushFault_69 : decode (mB M_X8_flushFault) 69 = .ok (.iconst 1, 1) := by decide +kernel
theorem dX8_flushFault_70 : decode (mB M_X8_flushFault) 70 = .ok (.ireturn, 1) := by decide +kernel
def b_X8_flushFault_46 (v0 : Nat) (h : HP) (s0 : Nat) (s1 : Int32) (s2 : Int32) (s3 : Int32) : Option (Int32 × HP) :=
  (f_X8_clean h s0 s1 s2 s3).bind fun y1 => (f_X8_begin y1 v0 (-1)).bind fun y2 => (f_X8_all y1 v0).bind fun y3 => (f_X8_isRoomFor y1 v0 y2 y3).bind fun y4 => if y4 = 0 then some (1, y1) else some (0, y1)
def b_X8_flushFault_0 (v0 : Nat) (h : HP) : Option (Int32 × HP) :=
  (gR 8 1 h v0).bind fun x1 => (aI h x1 6).bind fun x2 => if x2 = 0 then some (1, h) else (gR 8 1 h v0).bind fun x4 => (aI h x4 0).bind fun x5 => if x5 = 5 then some (1, h) else (f_X8_begin h v0 (-1)).bind fun y7 => (f_X8_all h v0).bind fun y8 => (gR 8 1 h v0).bind fun x9 => (aI h x9 0).bind fun x10 => if x10 = 0 then b_X8_flushFault_46 v0 h v0 y7 y8 1 else b_X8_flushFault_46 v0 h v0 y7 y8 0
def f_X8_flushFault (h : HP) (v0 : Nat) : Option (Int32 × HP) := (kO 8 h v0).bind fun _ => b_X8_flushFault_0 v0 h
theorem w_X8_flushFault_46 {l : Launch} {X : SCR} {Q : PST} {bc bs : Nat} {res : Int32 × HP} {h : HP} (hQ : ∀ sz', Q (.inl (some (.int res.1))) res.2 sz') {v0 : Nat} {s0 : Nat} {s1 : Int32} {s2 : Int32} {s3 : Int32} {sz : Nat} (hf : b_X8_flushFault_46 v0 h s0 s1 s2 s3 = some res) : SP l X M_X8_flushFault 46 [(0, .ref v0)] [.int s3, .int s2, .int s1, .ref s0] h sz bc bs Q := by
  rw [b_X8_flushFault_46] at hf
  obtain ⟨y1, ey1, hf⟩ := ob hf
  obtain ⟨fsy1, hoy1⟩ := o_X8_clean ey1
  refine sp_callVv (pc := 46) (z := M_X8_clean) (As := [.int s1, .int s2, .int s3]) (b := s0) (bc2 := bc) (bs2 := bs) (m_X8_clean (Q := _) (fun sz => ⟨(), rfl, ?_⟩) ey1) rfl dX8_flushFault_46 hoy1 rfl rfl ck_X8_flushFault_107 (Nat.le_of_ble_eq_true rfl) rfl rfl rfl
  refine sp_aload_n (pc := 49) dX8_flushFault_49 0 rfl ?_
  refine sp_aload_n (pc := 50) dX8_flushFault_50 0 rfl ?_
  refine sp_iconst (pc := 51) (v := (-1)) dX8_flushFault_51 (by decide) ?_
  obtain ⟨y2, ey2, hf⟩ := ob hf
  obtain ⟨fsy2, hoy2⟩ := o_X8_begin ey2
  refine sp_callVi (pc := 52) (z := M_X8_begin) (As := [.int (-1)]) (b := v0) (bc2 := bc) (bs2 := bs) (m_X8_begin (Q := _) (fun sz => ⟨y2, rfl, ?_⟩) ey2) rfl dX8_flushFault_52 hoy2 rfl rfl ck_X8_flushFault_46 (Nat.le_of_ble_eq_true rfl) rfl rfl rfl
  refine sp_aload_n (pc := 55) dX8_flushFault_55 0 rfl ?_
  obtain ⟨y3, ey3, hf⟩ := ob hf
  obtain ⟨fsy3, hoy3⟩ := o_X8_all ey3
  refine sp_callVi (pc := 56) (z := M_X8_all) (As := []) (b := v0) (bc2 := bc) (bs2 := bs) (m_X8_all (Q := _) (fun sz => ⟨y3, rfl, ?_⟩) ey3) rfl dX8_flushFault_56 hoy3 rfl rfl ck_X8_flushFault_54 (Nat.le_of_ble_eq_true rfl) rfl rfl rfl
  obtain ⟨y4, ey4, hf⟩ := ob hf
  obtain ⟨fsy4, hoy4⟩ := o_X8_isRoomFor ey4
  refine sp_callVi (pc := 59) (z := M_X8_isRoomFor) (As := [.int y2, .int y3]) (b := v0) (bc2 := bc) (bs2 := bs) (m_X8_isRoomFor (Q := _) (fun sz => ⟨y4, rfl, ?_⟩) ey4) rfl dX8_flushFault_59 hoy4 rfl rfl ck_X8_flushFault_111 (Nat.le_of_ble_eq_true rfl) rfl rfl rfl
  refine sp_if_eq (pc := 62) (tgt := 69) dX8_flushFault_62 (by decide) (fun c5 => ?_) (fun c5 => ?_)
  · rw [if_pos c5] at hf
    refine sp_iconst (pc := 69) (v := 1) dX8_flushFault_69 (by decide) ?_
    obtain rfl := Option.some.inj hf
    exact sp_ireturn (pc := 70) dX8_flushFault_70 rfl rfl (hQ _)
  · rw [if_neg c5] at hf
    refine sp_iconst (pc := 65) (v := 0) dX8_flushFault_65 (by decide) ?_
    refine sp_goto (pc := 66) (tgt := 70) dX8_flushFault_66 (by decide) ?_
    obtain rfl := Option.some.inj hf
    exact sp_ireturn (pc := 70) dX8_flushFault_70 rfl rfl (hQ _)

theorem w_X8_flushFault_0 {l : Launch} {X : SCR} {Q : PST} {bc bs : Nat} {res : Int32 × HP} {h : HP} (hQ : ∀ sz', Q (.inl (some (.int res.1))) res.2 sz') {v0 : Nat} {sz : Nat} (hf : b_X8_flushFault_0 v0 h  = some res) : SP l X M_X8_flushFault 0 [(0, .ref v0)] [] h sz bc bs Q := by
  rw [b_X8_flushFault_0] at hf
  refine sp_aload_n (pc := 0) dX8_flushFault_0 0 rfl ?_
  obtain ⟨x1, ex1, hf⟩ := ob hf
  refine sp_gR (pc := 1) fl_RX8_7 dX8_flushFault_1 ex1 ?_
  refine sp_bipush (pc := 4) (v := 6) dX8_flushFault_4 (by decide) ?_
  obtain ⟨x2, ex2, hf⟩ := ob hf
  refine sp_aI (pc := 6) dX8_flushFault_6 ex2 ?_
  refine sp_if_eq (pc := 7) (tgt := 20) dX8_flushFault_7 (by decide) (fun c3 => ?_) (fun c3 => ?_)
  · rw [if_pos c3] at hf
    refine sp_iconst (pc := 20) (v := 1) dX8_flushFault_20 (by decide) ?_
    obtain rfl := Option.some.inj hf
    exact sp_ireturn (pc := 21) dX8_flushFault_21 rfl rfl (hQ _)
  · rw [if_neg c3] at hf
    refine sp_aload_n (pc := 10) dX8_flushFault_10 0 rfl ?_
    obtain ⟨x4, ex4, hf⟩ := ob hf
    refine sp_gR (pc := 11) fl_RX8_7 dX8_flushFault_11 ex4 ?_
    refine sp_iconst (pc := 14) (v := 0) dX8_flushFault_14 (by decide) ?_
    obtain ⟨x5, ex5, hf⟩ := ob hf
    refine sp_aI (pc := 15) dX8_flushFault_15 ex5 ?_
    refine sp_iconst (pc := 16) (v := 5) dX8_flushFault_16 (by decide) ?_
    refine sp_icmp_ne (pc := 17) (tgt := 22) dX8_flushFault_17 (by decide) (fun c6 => ?_) (fun c6 => ?_)
    · rw [if_neg c6] at hf
      refine sp_aload_n (pc := 22) dX8_flushFault_22 0 rfl ?_
      refine sp_aload_n (pc := 23) dX8_flushFault_23 0 rfl ?_
      refine sp_iconst (pc := 24) (v := (-1)) dX8_flushFault_24 (by decide) ?_
      obtain ⟨y7, ey7, hf⟩ := ob hf
      obtain ⟨fsy7, hoy7⟩ := o_X8_begin ey7
      refine sp_callVi (pc := 25) (z := M_X8_begin) (As := [.int (-1)]) (b := v0) (bc2 := bc) (bs2 := bs) (m_X8_begin (Q := _) (fun sz => ⟨y7, rfl, ?_⟩) ey7) rfl dX8_flushFault_25 hoy7 rfl rfl ck_X8_flushFault_46 (Nat.le_of_ble_eq_true rfl) rfl rfl rfl
      refine sp_aload_n (pc := 28) dX8_flushFault_28 0 rfl ?_
      obtain ⟨y8, ey8, hf⟩ := ob hf
      obtain ⟨fsy8, hoy8⟩ := o_X8_all ey8
      refine sp_callVi (pc := 29) (z := M_X8_all) (As := []) (b := v0) (bc2 := bc) (bs2 := bs) (m_X8_all (Q := _) (fun sz => ⟨y8, rfl, ?_⟩) ey8) rfl dX8_flushFault_29 hoy8 rfl rfl ck_X8_flushFault_54 (Nat.le_of_ble_eq_true rfl) rfl rfl rfl
      refine sp_aload_n (pc := 32) dX8_flushFault_32 0 rfl ?_
      obtain ⟨x9, ex9, hf⟩ := ob hf
      refine sp_gR (pc := 33) fl_RX8_7 dX8_flushFault_33 ex9 ?_
      refine sp_iconst (pc := 36) (v := 0) dX8_flushFault_36 (by decide) ?_
      obtain ⟨x10, ex10, hf⟩ := ob hf
      refine sp_aI (pc := 37) dX8_flushFault_37 ex10 ?_
      refine sp_if_ne (pc := 38) (tgt := 45) dX8_flushFault_38 (by decide) (fun c11 => ?_) (fun c11 => ?_)
      · rw [if_neg c11] at hf
        refine sp_iconst (pc := 45) (v := 0) dX8_flushFault_45 (by decide) ?_
        exact (w_X8_flushFault_46 hQ hf)
      · rw [if_pos c11] at hf
        refine sp_iconst (pc := 41) (v := 1) dX8_flushFault_41 (by decide) ?_
        refine sp_goto (pc := 42) (tgt := 46) dX8_flushFault_42 (by decide) ?_
        exact (w_X8_flushFault_46 hQ hf)
    · rw [if_pos c6] at hf
      refine sp_iconst (pc := 20) (v := 1) dX8_flushFault_20 (by decide) ?_
      obtain rfl := Option.some.inj hf
      exact sp_ireturn (pc := 21) dX8_flushFault_21 rfl rfl (hQ _)

theorem o_X8_flushFault {h : HP} {v0 : Nat} {res : Int32 × HP} (hf : f_X8_flushFault h v0 = some res) : ∃ fs, h v0 = some (.inr (8, fs)) := by
  obtain ⟨u, eu, -⟩ := ob hf
  exact kO_spec eu

theorem m_X8_flushFault {l : Launch} {Q : PST} {h : HP} {v0 : Nat} {sz : Nat} {res : Int32 × HP} (hQ : ∀ sz', Q (.inl (some (.int res.1))) res.2 sz') (hf : f_X8_flushFault h v0 = some res) : MM l M_X8_flushFault [.ref v0] h sz Q := by
  obtain ⟨u, eu, hf⟩ := ob hf
  exact MM_of wok_X8_flushFault (by decide +kernel) (Nat.le_of_ble_eq_true rfl) ((w_X8_flushFault_0 hQ hf))

theorem dX8_flushes_0 : decode (mB M_X8_flushes) 0 = .ok (.aload_n 0, 1) := by decide +kernel
theorem dX8_flushes_1 : decode (mB M_X8_flushes) 1 = .ok (.aload_n 0, 1) := by decide +kernel
theorem dX8_flushes_2 : decode (mB M_X8_flushes) 2 = .ok (.iconst (-1), 1) := by decide +kernel
theorem dX8_flushes_3 : decode (mB M_X8_flushes) 3 = .ok (.invokevirtual 46, 3) := by decide +kernel
theorem dX8_flushes_6 : decode (mB M_X8_flushes) 6 = .ok (.aload_n 0, 1) := by decide +kernel
theorem dX8_flushes_7 : decode (mB M_X8_flushes) 7 = .ok (.invokevirtual 54, 3) := by decide +kernel
theorem dX8_flushes_10 : decode (mB M_X8_flushes) 10 = .ok (.invokevirtual 114, 3) := by decide +kernel
theorem dX8_flushes_13 : decode (mB M_X8_flushes) 13 = .ok (.aload_n 0, 1) := by decide +kernel
theorem dX8_flushes_14 : decode (mB M_X8_flushes) 14 = .ok (.getfield 7, 3) := by decide +kernel
theorem dX8_flushes_17 : decode (mB M_X8_flushes) 17 = .ok (.bipush 6, 2) := by decide +kernel
theorem dX8_flushes_19 : decode (mB M_X8_flushes) 19 = .ok (.iconst 0, 1) := by decide +kernel
theorem dX8_flushes_20 : decode (mB M_X8_flushes) 20 = .ok (.iastore, 1) := by decide +kernel
theorem dX8_flushes_21 : decode (mB M_X8_flushes) 21 = .ok (.aload_n 0, 1) := by decide +kernel
theorem dX8_flushes_22 : decode (mB M_X8_flushes) 22 = .ok (.getfield 78, 3) := by decide +kernel
theorem dX8_flushes_25 : decode (mB M_X8_flushes) 25 = .ok (.ifCond .le 58, 3) := by decide +kernel
theorem dX8_flushes_28 : decode (mB M_X8_flushes) 28 = .ok (.aload_n 0, 1) := by decide +kernel
theorem dX8_flushes_29 : decode (mB M_X8_flushes) 29 = .ok (.getfield 7, 3) := by decide +kernel
theorem dX8_flushes_32 : decode (mB M_X8_flushes) 32 = .ok (.iconst 0, 1) := by decide +kernel
theorem dX8_flushes_33 : decode (mB M_X8_flushes) 33 = .ok (.iaload, 1) := by decide +kernel
theorem dX8_flushes_34 : decode (mB M_X8_flushes) 34 = .ok (.istore_n 1, 1) := by decide +kernel
theorem dX8_flushes_35 : decode (mB M_X8_flushes) 35 = .ok (.iload_n 1, 1) := by decide +kernel
theorem dX8_flushes_36 : decode (mB M_X8_flushes) 36 = .ok (.ifCond .le 27, 3) := by decide +kernel
theorem dX8_flushes_39 : decode (mB M_X8_flushes) 39 = .ok (.aload_n 0, 1) := by decide +kernel
theorem dX8_flushes_40 : decode (mB M_X8_flushes) 40 = .ok (.getfield 7, 3) := by decide +kernel
theorem dX8_flushes_43 : decode (mB M_X8_flushes) 43 = .ok (.iconst 1, 1) := by decide +kernel
theorem dX8_flushes_44 : decode (mB M_X8_flushes) 44 = .ok (.iload_n 1, 1) := by decide +kernel
theorem dX8_flushes_45 : decode (mB M_X8_flushes) 45 = .ok (.iadd, 1) := by decide +kernel
theorem dX8_flushes_46 : decode (mB M_X8_flushes) 46 = .ok (.aload_n 0, 1) := by decide +kernel
theorem dX8_flushes_47 : decode (mB M_X8_flushes) 47 = .ok (.getfield 7, 3) := by decide +kernel
theorem dX8_flushes_50 : decode (mB M_X8_flushes) 50 = .ok (.iconst 1, 1) := by decide +kernel
theorem dX8_flushes_51 : decode (mB M_X8_flushes) 51 = .ok (.iload_n 1, 1) := by decide +kernel
theorem dX8_flushes_52 : decode (mB M_X8_flushes) 52 = .ok (.iadd, 1) := by decide +kernel
theorem dX8_flushes_53 : decode (mB M_X8_flushes) 53 = .ok (.iconst 1, 1) := by decide +kernel
theorem dX8_flushes_54 : decode (mB M_X8_flushes) 54 = .ok (.isub, 1) := by decide +kernel
theorem dX8_flushes_55 : decode (mB M_X8_flushes) 55 = .ok (.iaload, 1) := by decide +kernel
theorem dX8_flushes_56 : decode (mB M_X8_flushes) 56 = .ok (.iastore, 1) := by decide +kernel
theorem dX8_flushes_57 : decode (mB M_X8_flushes) 57 = .ok (.iinc 1 (-1), 3) := by decide +kernel
theorem dX8_flushes_60 : decode (mB M_X8_flushes) 60 = .ok (.goto (-25), 3) := by decide +kernel
theorem dX8_flushes_63 : decode (mB M_X8_flushes) 63 = .ok (.aload_n 0, 1) := by decide +kernel
theorem dX8_flushes_64 : decode (mB M_X8_flushes) 64 = .ok (.getfield 7, 3) := by decide +kernel
theorem dX8_flushes_67 : decode (mB M_X8_flushes) 67 = .ok (.iconst 1, 1) := by decide +kernel
theorem dX8_flushes_68 : decode (mB M_X8_flushes) 68 = .ok (.aload_n 0, 1) := by decide +kernel
theorem dX8_flushes_69 : decode (mB M_X8_flushes) 69 = .ok (.getfield 78, 3) := by decide +kernel
theorem dX8_flushes_72 : decode (mB M_X8_flushes) 72 = .ok (.iastore, 1) := by decide +kernel
theorem dX8_flushes_73 : decode (mB M_X8_flushes) 73 = .ok (.aload_n 0, 1) := by decide +kernel
theorem dX8_flushes_74 : decode (mB M_X8_flushes) 74 = .ok (.getfield 7, 3) := by decide +kernel
theorem dX8_flushes_77 : decode (mB M_X8_flushes) 77 = .ok (.iconst 0, 1) := by decide +kernel
theorem dX8_flushes_78 : decode (mB M_X8_flushes) 78 = .ok (.dup2, 1) := by decide +kernel
theorem dX8_flushes_79 : decode (mB M_X8_flushes) 79 = .ok (.iaload, 1) := by decide +kernel
theorem dX8_flushes_80 : decode (mB M_X8_flushes) 80 = .ok (.iconst 1, 1) := by decide +kernel
theorem dX8_flushes_81 : decode (mB M_X8_flushes) 81 = .ok (.iadd, 1) := by decide +kernel
theorem dX8_flushes_82 : decode (mB M_X8_flushes) 82 = .ok (.iastore, 1) := by decide +kernel
theorem dX8_flushes_83 : decode (mB M_X8_flushes) 83 = .ok (.aload_n 0, 1) := by decide +kernel
theorem dX8_flushes_84 : decode (mB M_X8_flushes) 84 = .ok (.getfield 78, 3) := by decide +kernel
theorem dX8_flushes_87 : decode (mB M_X8_flushes) 87 = .ok (.ireturn, 1) := by decide +kernel
def c_X8_flushes_35 (v0 : Nat) (k35 : HP → Int32 → Option (Int32 × HP)) (h : HP) (v1 : Int32) : Option (Int32 × HP) :=
  if v1 ≤ 0 then (gR 8 1 h v0).bind fun x2 => (gI 8 10 h v0).bind fun x3 => (wI h x2 1 x3).bind fun h4 => (gR 8 1 h4 v0).bind fun x5 => (aI h4 x5 0).bind fun x6 => (wI h4 x5 0 (x6 + 1)).bind fun h7 => (gI 8 10 h7 v0).bind fun x8 => some (x8, h7) else (gR 8 1 h v0).bind fun x9 => (gR 8 1 h v0).bind fun x10 => (aI h x10 ((1 + v1) - 1)).bind fun x11 => (wI h x9 (1 + v1) x11).bind fun h12 => k35 h12 (v1 + (-1))
def b_X8_flushes_35 (v0 : Nat) : Nat → HP → Int32 → Option (Int32 × HP)
  | 0, _, _ => none
  | n + 1, h, v1 => c_X8_flushes_35 v0 (b_X8_flushes_35 v0 n) h v1
def b_X8_flushes_0 (v0 : Nat) (h : HP) : Option (Int32 × HP) :=
  (f_X8_begin h v0 (-1)).bind fun y1 => (f_X8_all h v0).bind fun y2 => (f_X8_replace h v0 y1 y2).bind fun y3 => (gR 8 1 y3 v0).bind fun x4 => (wI y3 x4 6 0).bind fun h5 => (gI 8 10 h5 v0).bind fun x6 => if x6 ≤ 0 then (gI 8 10 h5 v0).bind fun x8 => some (x8, h5) else (gR 8 1 h5 v0).bind fun x9 => (aI h5 x9 0).bind fun x10 => b_X8_flushes_35 v0 FU h5 x10
def f_X8_flushes (h : HP) (v0 : Nat) : Option (Int32 × HP) := (kO 8 h v0).bind fun _ => b_X8_flushes_0 v0 h
theorem wc_X8_flushes_35 {l : Launch} {X : SCR} {Q : PST} {bc bs : Nat} {res : Int32 × HP} (hQ : ∀ sz', Q (.inl (some (.int res.1))) res.2 sz') {v0 : Nat} {k35 : HP → Int32 → Option (Int32 × HP)} (hk35 : ∀ (h : HP) (v1 : Int32) (sz : Nat), k35 h v1 = some res → SP l X M_X8_flushes 35 [(0, .ref v0), (1, .int v1)] [] h sz bc bs Q) {h : HP} {v1 : Int32} {sz : Nat} (hf : c_X8_flushes_35 v0 k35 h v1 = some res) : SP l X M_X8_flushes 35 [(0, .ref v0), (1, .int v1)] [] h sz bc bs Q := by
  rw [c_X8_flushes_35] at hf
  refine sp_iload_n (pc := 35) dX8_flushes_35 1 rfl ?_
  refine sp_if_le (pc := 36) (tgt := 63) dX8_flushes_36 (by decide) (fun c1 => ?_) (fun c1 => ?_)
  · rw [if_pos c1] at hf
    refine sp_aload_n (pc := 63) dX8_flushes_63 0 rfl ?_
    obtain ⟨x2, ex2, hf⟩ := ob hf
    refine sp_gR (pc := 64) fl_RX8_7 dX8_flushes_64 ex2 ?_
    refine sp_iconst (pc := 67) (v := 1) dX8_flushes_67 (by decide) ?_
    refine sp_aload_n (pc := 68) dX8_flushes_68 0 rfl ?_
    obtain ⟨x3, ex3, hf⟩ := ob hf
    refine sp_gI (pc := 69) fl_RX8_78 dX8_flushes_69 ex3 ?_
    obtain ⟨h4, eh4, hf⟩ := ob hf
    refine sp_wI (pc := 72) dX8_flushes_72 eh4 (fun sz => ?_)
    refine sp_aload_n (pc := 73) dX8_flushes_73 0 rfl ?_
    obtain ⟨x5, ex5, hf⟩ := ob hf
    refine sp_gR (pc := 74) fl_RX8_7 dX8_flushes_74 ex5 ?_
    refine sp_iconst (pc := 77) (v := 0) dX8_flushes_77 (by decide) ?_
    refine sp_dup2 (pc := 78) dX8_flushes_78 rfl rfl ?_
    obtain ⟨x6, ex6, hf⟩ := ob hf
    refine sp_aI (pc := 79) dX8_flushes_79 ex6 ?_
    refine sp_iconst (pc := 80) (v := 1) dX8_flushes_80 (by decide) ?_
    refine sp_iadd (pc := 81) dX8_flushes_81 ?_
    obtain ⟨h7, eh7, hf⟩ := ob hf
    refine sp_wI (pc := 82) dX8_flushes_82 eh7 (fun sz => ?_)
    refine sp_aload_n (pc := 83) dX8_flushes_83 0 rfl ?_
    obtain ⟨x8, ex8, hf⟩ := ob hf
    refine sp_gI (pc := 84) fl_RX8_78 dX8_flushes_84 ex8 ?_
    obtain rfl := Option.some.inj hf
    exact sp_ireturn (pc := 87) dX8_flushes_87 rfl rfl (hQ _)
  · rw [if_neg c1] at hf
    refine sp_aload_n (pc := 39) dX8_flushes_39 0 rfl ?_
    obtain ⟨x9, ex9, hf⟩ := ob hf
    refine sp_gR (pc := 40) fl_RX8_7 dX8_flushes_40 ex9 ?_
    refine sp_iconst (pc := 43) (v := 1) dX8_flushes_43 (by decide) ?_
    refine sp_iload_n (pc := 44) dX8_flushes_44 1 rfl ?_
    refine sp_iadd (pc := 45) dX8_flushes_45 ?_
    refine sp_aload_n (pc := 46) dX8_flushes_46 0 rfl ?_
    obtain ⟨x10, ex10, hf⟩ := ob hf
    refine sp_gR (pc := 47) fl_RX8_7 dX8_flushes_47 ex10 ?_
    refine sp_iconst (pc := 50) (v := 1) dX8_flushes_50 (by decide) ?_
    refine sp_iload_n (pc := 51) dX8_flushes_51 1 rfl ?_
    refine sp_iadd (pc := 52) dX8_flushes_52 ?_
    refine sp_iconst (pc := 53) (v := 1) dX8_flushes_53 (by decide) ?_
    refine sp_isub (pc := 54) dX8_flushes_54 ?_
    obtain ⟨x11, ex11, hf⟩ := ob hf
    refine sp_aI (pc := 55) dX8_flushes_55 ex11 ?_
    obtain ⟨h12, eh12, hf⟩ := ob hf
    refine sp_wI (pc := 56) dX8_flushes_56 eh12 (fun sz => ?_)
    refine sp_iinc (pc := 57) (v := v1 + (-1)) (lv' := [(1, .int (v1 + (-1))), (0, .ref v0)]) dX8_flushes_57 1 rfl rfl (by decide) rfl ?_
    refine sp_goto (pc := 60) (tgt := 35) dX8_flushes_60 (by decide) ?_
    exact sp_sub [1, 0] rfl (hk35 _ _ _ hf)

theorem w_X8_flushes_35 {l : Launch} {X : SCR} {Q : PST} {bc bs : Nat} {res : Int32 × HP} (hQ : ∀ sz', Q (.inl (some (.int res.1))) res.2 sz') {v0 : Nat} : ∀ (n : Nat) {h : HP} {v1 : Int32} {sz : Nat}, b_X8_flushes_35 v0 n h v1 = some res → SP l X M_X8_flushes 35 [(0, .ref v0), (1, .int v1)] [] h sz bc bs Q := by
  intro n
  induction n with
  | zero =>
    intro h v1 sz hf
    rw [b_X8_flushes_35] at hf
    cases hf
  | succ n ih =>
    intro h v1 sz hf
    rw [b_X8_flushes_35] at hf
    exact wc_X8_flushes_35 hQ (fun h v1 sz hf => ih hf) hf

theorem w_X8_flushes_0 {l : Launch} {X : SCR} {Q : PST} {bc bs : Nat} {res : Int32 × HP} {h : HP} (hQ : ∀ sz', Q (.inl (some (.int res.1))) res.2 sz') {v0 : Nat} {sz : Nat} (hf : b_X8_flushes_0 v0 h  = some res) : SP l X M_X8_flushes 0 [(0, .ref v0)] [] h sz bc bs Q := by
  rw [b_X8_flushes_0] at hf
  refine sp_aload_n (pc := 0) dX8_flushes_0 0 rfl ?_
  refine sp_aload_n (pc := 1) dX8_flushes_1 0 rfl ?_
  refine sp_iconst (pc := 2) (v := (-1)) dX8_flushes_2 (by decide) ?_
  obtain ⟨y1, ey1, hf⟩ := ob hf
  obtain ⟨fsy1, hoy1⟩ := o_X8_begin ey1
  refine sp_callVi (pc := 3) (z := M_X8_begin) (As := [.int (-1)]) (b := v0) (bc2 := bc) (bs2 := bs) (m_X8_begin (Q := _) (fun sz => ⟨y1, rfl, ?_⟩) ey1) rfl dX8_flushes_3 hoy1 rfl rfl ck_X8_flushes_46 (Nat.le_of_ble_eq_true rfl) rfl rfl rfl
  refine sp_aload_n (pc := 6) dX8_flushes_6 0 rfl ?_
  obtain ⟨y2, ey2, hf⟩ := ob hf
  obtain ⟨fsy2, hoy2⟩ := o_X8_all ey2
  refine sp_callVi (pc := 7) (z := M_X8_all) (As := []) (b := v0) (bc2 := bc) (bs2 := bs) (m_X8_all (Q := _) (fun sz => ⟨y2, rfl, ?_⟩) ey2) rfl dX8_flushes_7 hoy2 rfl rfl ck_X8_flushes_54 (Nat.le_of_ble_eq_true rfl) rfl rfl rfl
  obtain ⟨y3, ey3, hf⟩ := ob hf
  obtain ⟨fsy3, hoy3⟩ := o_X8_replace ey3
  refine sp_callVv (pc := 10) (z := M_X8_replace) (As := [.int y1, .int y2]) (b := v0) (bc2 := bc) (bs2 := bs) (m_X8_replace (Q := _) (fun sz => ⟨(), rfl, ?_⟩) ey3) rfl dX8_flushes_10 hoy3 rfl rfl ck_X8_flushes_114 (Nat.le_of_ble_eq_true rfl) rfl rfl rfl
  refine sp_aload_n (pc := 13) dX8_flushes_13 0 rfl ?_
  obtain ⟨x4, ex4, hf⟩ := ob hf
  refine sp_gR (pc := 14) fl_RX8_7 dX8_flushes_14 ex4 ?_
  refine sp_bipush (pc := 17) (v := 6) dX8_flushes_17 (by decide) ?_
  refine sp_iconst (pc := 19) (v := 0) dX8_flushes_19 (by decide) ?_
  obtain ⟨h5, eh5, hf⟩ := ob hf
  refine sp_wI (pc := 20) dX8_flushes_20 eh5 (fun sz => ?_)
  refine sp_aload_n (pc := 21) dX8_flushes_21 0 rfl ?_
  obtain ⟨x6, ex6, hf⟩ := ob hf
  refine sp_gI (pc := 22) fl_RX8_78 dX8_flushes_22 ex6 ?_
  refine sp_if_le (pc := 25) (tgt := 83) dX8_flushes_25 (by decide) (fun c7 => ?_) (fun c7 => ?_)
  · rw [if_pos c7] at hf
    refine sp_aload_n (pc := 83) dX8_flushes_83 0 rfl ?_
    obtain ⟨x8, ex8, hf⟩ := ob hf
    refine sp_gI (pc := 84) fl_RX8_78 dX8_flushes_84 ex8 ?_
    obtain rfl := Option.some.inj hf
    exact sp_ireturn (pc := 87) dX8_flushes_87 rfl rfl (hQ _)
  · rw [if_neg c7] at hf
    refine sp_aload_n (pc := 28) dX8_flushes_28 0 rfl ?_
    obtain ⟨x9, ex9, hf⟩ := ob hf
    refine sp_gR (pc := 29) fl_RX8_7 dX8_flushes_29 ex9 ?_
    refine sp_iconst (pc := 32) (v := 0) dX8_flushes_32 (by decide) ?_
    obtain ⟨x10, ex10, hf⟩ := ob hf
    refine sp_aI (pc := 33) dX8_flushes_33 ex10 ?_
    refine sp_istore_n (pc := 34) (lv' := [(1, .int x10), (0, .ref v0)]) dX8_flushes_34 (by decide) rfl ?_
    exact sp_sub [1, 0] rfl (w_X8_flushes_35 hQ FU hf)

theorem o_X8_flushes {h : HP} {v0 : Nat} {res : Int32 × HP} (hf : f_X8_flushes h v0 = some res) : ∃ fs, h v0 = some (.inr (8, fs)) := by
  obtain ⟨u, eu, -⟩ := ob hf
  exact kO_spec eu

theorem m_X8_flushes {l : Launch} {Q : PST} {h : HP} {v0 : Nat} {sz : Nat} {res : Int32 × HP} (hQ : ∀ sz', Q (.inl (some (.int res.1))) res.2 sz') (hf : f_X8_flushes h v0 = some res) : MM l M_X8_flushes [.ref v0] h sz Q := by
  obtain ⟨u, eu, hf⟩ := ob hf
  exact MM_of wok_X8_flushes (by decide +kernel) (Nat.le_of_ble_eq_true rfl) ((w_X8_flushes_0 hQ hf))

