def outT (r : Int32 ⊕ String) : OUT := match r with
  | .inl x => .inl (some (.int x))
  | .inr E => .inr E
theorem outT_e {o : Int32 ⊕ String} {r : Int32} (e : rt o = some r) : outT o = .inl (some (.int r)) := by
  rw [rt_spec e]
  rfl
theorem lk_none {ps : List (Int × Int)} {dflt x : Int} (h : ∀ p ∈ ps, p.1 ≠ x) : Op.lookupswitch.offset ps dflt x = dflt := by
  induction ps with
  | nil => rfl
  | cons p ps ih =>
    have h1 := h p List.mem_cons_self
    have h2 := ih (fun q hq => h q (List.mem_cons_of_mem _ hq))
    unfold Op.lookupswitch.offset at h2 ⊢
    simp_all
theorem dX6_init_0 : decode (mB M_X6_init) 0 = .ok (.aload_n 0, 1) := by decide +kernel
theorem dX6_init_1 : decode (mB M_X6_init) 1 = .ok (.invokespecial 3, 3) := by decide +kernel
theorem dX6_init_4 : decode (mB M_X6_init) 4 = .ok (.iload_n 1, 1) := by decide +kernel
theorem dX6_init_5 : decode (mB M_X6_init) 5 = .ok (.iconst 0, 1) := by decide +kernel
theorem dX6_init_6 : decode (mB M_X6_init) 6 = .ok (.invokestatic 9, 3) := by decide +kernel
theorem dX6_init_9 : decode (mB M_X6_init) 9 = .ok (.istore_n 2, 1) := by decide +kernel
theorem dX6_init_10 : decode (mB M_X6_init) 10 = .ok (.aload_n 0, 1) := by decide +kernel
theorem dX6_init_11 : decode (mB M_X6_init) 11 = .ok (.iload_n 2, 1) := by decide +kernel
theorem dX6_init_12 : decode (mB M_X6_init) 12 = .ok (.newarray .int, 2) := by decide +kernel
theorem dX6_init_14 : decode (mB M_X6_init) 14 = .ok (.putfield 15, 3) := by decide +kernel
theorem dX6_init_17 : decode (mB M_X6_init) 17 = .ok (.aload_n 0, 1) := by decide +kernel
theorem dX6_init_18 : decode (mB M_X6_init) 18 = .ok (.iload_n 2, 1) := by decide +kernel
theorem dX6_init_19 : decode (mB M_X6_init) 19 = .ok (.newarray .int, 2) := by decide +kernel
theorem dX6_init_21 : decode (mB M_X6_init) 21 = .ok (.putfield 21, 3) := by decide +kernel
theorem dX6_init_24 : decode (mB M_X6_init) 24 = .ok (.aload_n 0, 1) := by decide +kernel
theorem dX6_init_25 : decode (mB M_X6_init) 25 = .ok (.iload_n 2, 1) := by decide +kernel
theorem dX6_init_26 : decode (mB M_X6_init) 26 = .ok (.newarray .int, 2) := by decide +kernel
theorem dX6_init_28 : decode (mB M_X6_init) 28 = .ok (.putfield 24, 3) := by decide +kernel
theorem dX6_init_31 : decode (mB M_X6_init) 31 = .ok (.aload_n 0, 1) := by decide +kernel
theorem dX6_init_32 : decode (mB M_X6_init) 32 = .ok (.iload_n 2, 1) := by decide +kernel
theorem dX6_init_33 : decode (mB M_X6_init) 33 = .ok (.newarray .int, 2) := by decide +kernel
theorem dX6_init_35 : decode (mB M_X6_init) 35 = .ok (.putfield 27, 3) := by decide +kernel
theorem dX6_init_38 : decode (mB M_X6_init) 38 = .ok (.return_, 1) := by decide +kernel
def b_X6_init_0 (v0 : Nat) (v1 : Int32) (h : HP) (q bc bs : Nat) : Option (HP × Nat) :=
  (alN bc bs (jmax v1 0)).bind fun b1 => (nwI h q (jmax v1 0)).bind fun h2 => (pR 6 0 h2 v0 q).bind fun h3 => (alN b1.1 b1.2 (jmax v1 0)).bind fun b4 => (nwI h3 (q + 1) (jmax v1 0)).bind fun h5 => (pR 6 1 h5 v0 (q + 1)).bind fun h6 => (alN b4.1 b4.2 (jmax v1 0)).bind fun b7 => (nwI h6 ((q + 1) + 1) (jmax v1 0)).bind fun h8 => (pR 6 2 h8 v0 ((q + 1) + 1)).bind fun h9 => (alN b7.1 b7.2 (jmax v1 0)).bind fun b10 => (nwI h9 (((q + 1) + 1) + 1) (jmax v1 0)).bind fun h11 => (pR 6 3 h11 v0 (((q + 1) + 1) + 1)).bind fun h12 => some (h12, (((q + 1) + 1) + 1) + 1)
def f_X6_init (h : HP) (q : Nat) (v0 : Nat) (v1 : Int32) : Option (HP × Nat) := b_X6_init_0 v0 v1 h q 4 1392
theorem w_X6_init_0 {l : Launch} {X : SCR} {Q : PST} {res : HP × Nat} {h : HP} {q bc bs : Nat} (hQ : Q (.inl none) res.1 res.2) {v0 : Nat} {v1 : Int32} (hf : b_X6_init_0 v0 v1 h q bc bs  = some res) : SP l X M_X6_init 0 [(0, .ref v0), (1, .int v1)] [] h q bc bs Q := by
  rw [b_X6_init_0] at hf
  refine sp_aload_n (pc := 0) dX6_init_0 0 rfl ?_
  refine sp_objInit (pc := 1) bk_43 bk_30 bk_31 dX6_init_1 (by decide) (Nat.le_of_ble_eq_true rfl) ?_
  refine sp_iload_n (pc := 4) dX6_init_4 1 rfl ?_
  refine sp_iconst (pc := 5) (v := 0) dX6_init_5 (by decide) ?_
  refine sp_mmaxJ (pc := 6) bk_44 bk_45 bk_9 bk_46 dX6_init_6 (by decide) (Nat.le_of_ble_eq_true rfl) ?_
  refine sp_istore_n (pc := 9) (lv' := [(2, .int (jmax v1 0)), (0, .ref v0), (1, .int v1)]) dX6_init_9 (by decide) rfl ?_
  refine sp_aload_n (pc := 10) dX6_init_10 1 rfl ?_
  refine sp_iload_n (pc := 11) dX6_init_11 0 rfl ?_
  obtain ⟨b1, eb1, hf⟩ := ob hf
  obtain ⟨h2, eh2, hf⟩ := ob hf
  obtain rfl := Option.some.inj eh2
  obtain ⟨g1b1, g2b1, g3b1, g4b1⟩ := alN_spec eb1
  refine sp_newaI (pc := 12) (bc2 := b1.1) (bs2 := b1.2) bk_63 dX6_init_12 g1b1 rfl (Nat.le_trans (Nat.mul_le_mul_left _ (by decide)) g2b1) g3b1 g4b1 (fun hfr => ?_)
  obtain ⟨h3, eh3, hf⟩ := ob hf
  refine sp_pRF (pc := 14) pf_RX6_15 rfl dX6_init_14 rfl rfl eh3 ?_
  refine sp_aload_n (pc := 17) dX6_init_17 1 rfl ?_
  refine sp_iload_n (pc := 18) dX6_init_18 0 rfl ?_
  obtain ⟨b4, eb4, hf⟩ := ob hf
  obtain ⟨h5, eh5, hf⟩ := ob hf
  obtain rfl := Option.some.inj eh5
  obtain ⟨g1b4, g2b4, g3b4, g4b4⟩ := alN_spec eb4
  refine sp_newaI (pc := 19) (bc2 := b4.1) (bs2 := b4.2) bk_63 dX6_init_19 g1b4 rfl (Nat.le_trans (Nat.mul_le_mul_left _ (by decide)) g2b4) g3b4 g4b4 (fun hfr => ?_)
  obtain ⟨h6, eh6, hf⟩ := ob hf
  refine sp_pRF (pc := 21) pf_RX6_21 rfl dX6_init_21 rfl rfl eh6 ?_
  refine sp_aload_n (pc := 24) dX6_init_24 1 rfl ?_
  refine sp_iload_n (pc := 25) dX6_init_25 0 rfl ?_
  obtain ⟨b7, eb7, hf⟩ := ob hf
  obtain ⟨h8, eh8, hf⟩ := ob hf
  obtain rfl := Option.some.inj eh8
  obtain ⟨g1b7, g2b7, g3b7, g4b7⟩ := alN_spec eb7
  refine sp_newaI (pc := 26) (bc2 := b7.1) (bs2 := b7.2) bk_63 dX6_init_26 g1b7 rfl (Nat.le_trans (Nat.mul_le_mul_left _ (by decide)) g2b7) g3b7 g4b7 (fun hfr => ?_)
  obtain ⟨h9, eh9, hf⟩ := ob hf
  refine sp_pRF (pc := 28) pf_RX6_24 rfl dX6_init_28 rfl rfl eh9 ?_
  refine sp_aload_n (pc := 31) dX6_init_31 1 rfl ?_
  refine sp_iload_n (pc := 32) dX6_init_32 0 rfl ?_
  obtain ⟨b10, eb10, hf⟩ := ob hf
  obtain ⟨h11, eh11, hf⟩ := ob hf
  obtain rfl := Option.some.inj eh11
  obtain ⟨g1b10, g2b10, g3b10, g4b10⟩ := alN_spec eb10
  refine sp_newaI (pc := 33) (bc2 := b10.1) (bs2 := b10.2) bk_63 dX6_init_33 g1b10 rfl (Nat.le_trans (Nat.mul_le_mul_left _ (by decide)) g2b10) g3b10 g4b10 (fun hfr => ?_)
  obtain ⟨h12, eh12, hf⟩ := ob hf
  refine sp_pRF (pc := 35) pf_RX6_27 rfl dX6_init_35 rfl rfl eh12 ?_
  obtain rfl := Option.some.inj hf
  exact sp_return (pc := 38) dX6_init_38 rfl hQ

theorem m_X6_init {l : Launch} {Q : PST} {h : HP} {v0 : Nat} {v1 : Int32} {sz : Nat} {res : HP × Nat} (hQ : Q (.inl none) res.1 res.2) (hf : f_X6_init h sz v0 v1 = some res) : MM l M_X6_init [.ref v0, .int v1] h sz Q := by
  rw [f_X6_init] at hf
  exact MM_of wok_X6_init (by decide +kernel) (Nat.le_of_ble_eq_true rfl) ((w_X6_init_0 hQ hf))

theorem dX2_init_0 : decode (mB M_X2_init) 0 = .ok (.aload_n 0, 1) := by decide +kernel
theorem dX2_init_1 : decode (mB M_X2_init) 1 = .ok (.invokespecial 3, 3) := by decide +kernel
theorem dX2_init_4 : decode (mB M_X2_init) 4 = .ok (.return_, 1) := by decide +kernel
def b_X2_init_0 (v0 : Nat) (h : HP) (q bc bs : Nat) : Option (HP × Nat) :=
  some (h, q)
def f_X2_init (h : HP) (q : Nat) (v0 : Nat) : Option (HP × Nat) := b_X2_init_0 v0 h q 0 0
theorem w_X2_init_0 {l : Launch} {X : SCR} {Q : PST} {res : HP × Nat} {h : HP} {q bc bs : Nat} (hQ : Q (.inl none) res.1 res.2) {v0 : Nat} (hf : b_X2_init_0 v0 h q bc bs  = some res) : SP l X M_X2_init 0 [(0, .ref v0)] [] h q bc bs Q := by
  rw [b_X2_init_0] at hf
  refine sp_aload_n (pc := 0) dX2_init_0 0 rfl ?_
  refine sp_objInit (pc := 1) bk_70 bk_30 bk_31 dX2_init_1 (by decide) (Nat.le_of_ble_eq_true rfl) ?_
  obtain rfl := Option.some.inj hf
  exact sp_return (pc := 4) dX2_init_4 rfl hQ

theorem m_X2_init {l : Launch} {Q : PST} {h : HP} {v0 : Nat} {sz : Nat} {res : HP × Nat} (hQ : Q (.inl none) res.1 res.2) (hf : f_X2_init h sz v0 = some res) : MM l M_X2_init [.ref v0] h sz Q := by
  rw [f_X2_init] at hf
  exact MM_of wok_X2_init (by decide +kernel) (Nat.le_of_ble_eq_true rfl) ((w_X2_init_0 hQ hf))

theorem dX0_init_0 : decode (mB M_X0_init) 0 = .ok (.aload_n 0, 1) := by decide +kernel
theorem dX0_init_1 : decode (mB M_X0_init) 1 = .ok (.invokespecial 3, 3) := by decide +kernel
theorem dX0_init_4 : decode (mB M_X0_init) 4 = .ok (.aload_n 0, 1) := by decide +kernel
theorem dX0_init_5 : decode (mB M_X0_init) 5 = .ok (.new 9, 3) := by decide +kernel
theorem dX0_init_8 : decode (mB M_X0_init) 8 = .ok (.dup, 1) := by decide +kernel
theorem dX0_init_9 : decode (mB M_X0_init) 9 = .ok (.sipush 348, 3) := by decide +kernel
theorem dX0_init_12 : decode (mB M_X0_init) 12 = .ok (.invokespecial 11, 3) := by decide +kernel
theorem dX0_init_15 : decode (mB M_X0_init) 15 = .ok (.putfield 14, 3) := by decide +kernel
theorem dX0_init_18 : decode (mB M_X0_init) 18 = .ok (.aload_n 0, 1) := by decide +kernel
theorem dX0_init_19 : decode (mB M_X0_init) 19 = .ok (.sipush 148, 3) := by decide +kernel
theorem dX0_init_22 : decode (mB M_X0_init) 22 = .ok (.anewarray 20, 3) := by decide +kernel
theorem dX0_init_25 : decode (mB M_X0_init) 25 = .ok (.putfield 22, 3) := by decide +kernel
theorem dX0_init_28 : decode (mB M_X0_init) 28 = .ok (.aload_n 0, 1) := by decide +kernel
theorem dX0_init_29 : decode (mB M_X0_init) 29 = .ok (.new 20, 3) := by decide +kernel
theorem dX0_init_32 : decode (mB M_X0_init) 32 = .ok (.dup, 1) := by decide +kernel
theorem dX0_init_33 : decode (mB M_X0_init) 33 = .ok (.invokespecial 26, 3) := by decide +kernel
theorem dX0_init_36 : decode (mB M_X0_init) 36 = .ok (.putfield 27, 3) := by decide +kernel
theorem dX0_init_39 : decode (mB M_X0_init) 39 = .ok (.aload_n 0, 1) := by decide +kernel
theorem dX0_init_40 : decode (mB M_X0_init) 40 = .ok (.new 20, 3) := by decide +kernel
theorem dX0_init_43 : decode (mB M_X0_init) 43 = .ok (.dup, 1) := by decide +kernel
theorem dX0_init_44 : decode (mB M_X0_init) 44 = .ok (.invokespecial 26, 3) := by decide +kernel
theorem dX0_init_47 : decode (mB M_X0_init) 47 = .ok (.putfield 31, 3) := by decide +kernel
theorem dX0_init_50 : decode (mB M_X0_init) 50 = .ok (.aload_n 0, 1) := by decide +kernel
theorem dX0_init_51 : decode (mB M_X0_init) 51 = .ok (.new 20, 3) := by decide +kernel
theorem dX0_init_54 : decode (mB M_X0_init) 54 = .ok (.dup, 1) := by decide +kernel
theorem dX0_init_55 : decode (mB M_X0_init) 55 = .ok (.invokespecial 26, 3) := by decide +kernel
theorem dX0_init_58 : decode (mB M_X0_init) 58 = .ok (.putfield 34, 3) := by decide +kernel
theorem dX0_init_61 : decode (mB M_X0_init) 61 = .ok (.iconst 0, 1) := by decide +kernel
theorem dX0_init_62 : decode (mB M_X0_init) 62 = .ok (.istore_n 1, 1) := by decide +kernel
theorem dX0_init_63 : decode (mB M_X0_init) 63 = .ok (.iload_n 1, 1) := by decide +kernel
theorem dX0_init_64 : decode (mB M_X0_init) 64 = .ok (.aload_n 0, 1) := by decide +kernel
theorem dX0_init_65 : decode (mB M_X0_init) 65 = .ok (.getfield 22, 3) := by decide +kernel
theorem dX0_init_68 : decode (mB M_X0_init) 68 = .ok (.arraylength, 1) := by decide +kernel
theorem dX0_init_69 : decode (mB M_X0_init) 69 = .ok (.if_icmp .ge 22, 3) := by decide +kernel
theorem dX0_init_72 : decode (mB M_X0_init) 72 = .ok (.aload_n 0, 1) := by decide +kernel
theorem dX0_init_73 : decode (mB M_X0_init) 73 = .ok (.getfield 22, 3) := by decide +kernel
theorem dX0_init_76 : decode (mB M_X0_init) 76 = .ok (.iload_n 1, 1) := by decide +kernel
theorem dX0_init_77 : decode (mB M_X0_init) 77 = .ok (.new 20, 3) := by decide +kernel
theorem dX0_init_80 : decode (mB M_X0_init) 80 = .ok (.dup, 1) := by decide +kernel
theorem dX0_init_81 : decode (mB M_X0_init) 81 = .ok (.invokespecial 26, 3) := by decide +kernel
theorem dX0_init_84 : decode (mB M_X0_init) 84 = .ok (.aastore, 1) := by decide +kernel
theorem dX0_init_85 : decode (mB M_X0_init) 85 = .ok (.iinc 1 1, 3) := by decide +kernel
theorem dX0_init_88 : decode (mB M_X0_init) 88 = .ok (.goto (-25), 3) := by decide +kernel
theorem dX0_init_91 : decode (mB M_X0_init) 91 = .ok (.return_, 1) := by decide +kernel
def c_X0_init_63 (v0 : Nat) (k63 : HP → Nat → Nat → Nat → Int32 → Option (HP × Nat)) (h : HP) (q bc bs : Nat) (v1 : Int32) : Option (HP × Nat) :=
  (gR 0 1 h v0).bind fun x1 => (aN h x1).bind fun x2 => if x2 ≤ v1 then some (h, q) else (gR 0 1 h v0).bind fun x4 => (tk bc 1).bind fun b6 => (tk bs 2).bind fun b7 => (nwO h q 2 [.long 0, .long 0]).bind fun h5 => (tk b6 0).bind fun b9 => (tk b7 0).bind fun b10 => (f_X2_init h5 (q + 1) q).bind fun y8 => (wR 3 2 y8.1 x4 v1 q).bind fun h11 => k63 h11 y8.2 b9 b10 (v1 + 1)
def b_X0_init_63 (v0 : Nat) : Nat → HP → Nat → Nat → Nat → Int32 → Option (HP × Nat)
  | 0, _, _, _, _, _ => none
  | n + 1, h, q, bc, bs, v1 => c_X0_init_63 v0 (b_X0_init_63 v0 n) h q bc bs v1
def b_X0_init_0 (v0 : Nat) (h : HP) (q bc bs : Nat) : Option (HP × Nat) :=
  (tk bc 1).bind fun b2 => (tk bs 5).bind fun b3 => (nwO h q 6 [.null, .null, .null, .null, .int 0]).bind fun h1 => (tk b2 4).bind fun b5 => (tk b3 1392).bind fun b6 => (f_X6_init h1 (q + 1) q 348).bind fun y4 => (pR 0 0 y4.1 v0 q).bind fun h7 => (alN b5 b6 148).bind fun b8 => (nwR 3 h7 y4.2 148).bind fun h9 => (pR 0 1 h9 v0 y4.2).bind fun h10 => (tk b8.1 1).bind fun b12 => (tk b8.2 2).bind fun b13 => (nwO h10 (y4.2 + 1) 2 [.long 0, .long 0]).bind fun h11 => (tk b12 0).bind fun b15 => (tk b13 0).bind fun b16 => (f_X2_init h11 ((y4.2 + 1) + 1) (y4.2 + 1)).bind fun y14 => (pR 0 2 y14.1 v0 (y4.2 + 1)).bind fun h17 => (tk b15 1).bind fun b19 => (tk b16 2).bind fun b20 => (nwO h17 y14.2 2 [.long 0, .long 0]).bind fun h18 => (tk b19 0).bind fun b22 => (tk b20 0).bind fun b23 => (f_X2_init h18 (y14.2 + 1) y14.2).bind fun y21 => (pR 0 3 y21.1 v0 y14.2).bind fun h24 => (tk b22 1).bind fun b26 => (tk b23 2).bind fun b27 => (nwO h24 y21.2 2 [.long 0, .long 0]).bind fun h25 => (tk b26 0).bind fun b29 => (tk b27 0).bind fun b30 => (f_X2_init h25 (y21.2 + 1) y21.2).bind fun y28 => (pR 0 4 y28.1 v0 y21.2).bind fun h31 => b_X0_init_63 v0 FU h31 y28.2 b29 b30 0
def f_X0_init (h : HP) (q : Nat) (v0 : Nat) : Option (HP × Nat) := b_X0_init_0 v0 h q 157 1847
theorem wc_X0_init_63 {l : Launch} {X : SCR} {Q : PST} {res : HP × Nat} (hQ : Q (.inl none) res.1 res.2) {v0 : Nat} {k63 : HP → Nat → Nat → Nat → Int32 → Option (HP × Nat)} (hk63 : ∀ (h : HP) (q bc bs : Nat) (v1 : Int32), k63 h q bc bs v1 = some res → SP l X M_X0_init 63 [(0, .ref v0), (1, .int v1)] [] h q bc bs Q) {h : HP} {q bc bs : Nat} {v1 : Int32} (hf : c_X0_init_63 v0 k63 h q bc bs v1 = some res) : SP l X M_X0_init 63 [(0, .ref v0), (1, .int v1)] [] h q bc bs Q := by
  rw [c_X0_init_63] at hf
  refine sp_iload_n (pc := 63) dX0_init_63 1 rfl ?_
  refine sp_aload_n (pc := 64) dX0_init_64 0 rfl ?_
  obtain ⟨x1, ex1, hf⟩ := ob hf
  refine sp_gR (pc := 65) fl_RX0_22 dX0_init_65 ex1 ?_
  obtain ⟨x2, ex2, hf⟩ := ob hf
  refine sp_aN (pc := 68) dX0_init_68 ex2 ?_
  refine sp_icmp_ge (pc := 69) (tgt := 91) dX0_init_69 (by decide) (fun c3 => ?_) (fun c3 => ?_)
  · rw [if_pos c3] at hf
    obtain rfl := Option.some.inj hf
    exact sp_return (pc := 91) dX0_init_91 rfl hQ
  · rw [if_neg c3] at hf
    refine sp_aload_n (pc := 72) dX0_init_72 0 rfl ?_
    obtain ⟨x4, ex4, hf⟩ := ob hf
    refine sp_gR (pc := 73) fl_RX0_22 dX0_init_73 ex4 ?_
    refine sp_iload_n (pc := 76) dX0_init_76 1 rfl ?_
    obtain ⟨b6, eb6, hf⟩ := ob hf
    obtain ⟨b7, eb7, hf⟩ := ob hf
    obtain ⟨h5, eh5, hf⟩ := ob hf
    obtain rfl := Option.some.inj eh5
    refine sp_new (pc := 77) (bc2 := b6) (bs2 := b7) nw_RX0_20 dX0_init_77 (tk_spec eb6) (tk_spec eb7) (fun hfr => ?_)
    refine sp_dup (pc := 80) dX0_init_80 rfl ?_
    obtain ⟨b9, eb9, hf⟩ := ob hf
    obtain ⟨b10, eb10, hf⟩ := ob hf
    obtain ⟨y8, ey8, hf⟩ := ob hf
    refine sp_callIv (pc := 81) (z := M_X2_init) (As := []) (b := q) (bc2 := b9) (bs2 := b10) (m_X2_init (Q := _) ⟨(), rfl, ?_⟩ ey8) rfl rfl rfl dX0_init_81 rfl ck_X0_init_26 (Nat.le_of_ble_eq_true rfl) (tk_spec eb9) (tk_spec eb10) rfl
    obtain ⟨h11, eh11, hf⟩ := ob hf
    refine sp_wR3 (pc := 84) dX0_init_84 eh11 ?_
    refine sp_iinc (pc := 85) (v := v1 + 1) (lv' := [(1, .int (v1 + 1)), (0, .ref v0)]) dX0_init_85 1 rfl rfl (by decide) rfl ?_
    refine sp_goto (pc := 88) (tgt := 63) dX0_init_88 (by decide) ?_
    exact sp_sub [1, 0] rfl (hk63 _ _ _ _ _ hf)

theorem w_X0_init_63 {l : Launch} {X : SCR} {Q : PST} {res : HP × Nat} (hQ : Q (.inl none) res.1 res.2) {v0 : Nat} : ∀ (n : Nat) {h : HP} {q bc bs : Nat} {v1 : Int32}, b_X0_init_63 v0 n h q bc bs v1 = some res → SP l X M_X0_init 63 [(0, .ref v0), (1, .int v1)] [] h q bc bs Q := by
  intro n
  induction n with
  | zero =>
    intro h q bc bs v1 hf
    rw [b_X0_init_63] at hf
    cases hf
  | succ n ih =>
    intro h q bc bs v1 hf
    rw [b_X0_init_63] at hf
    exact wc_X0_init_63 hQ (fun h q bc bs v1 hf => ih hf) hf

theorem w_X0_init_0 {l : Launch} {X : SCR} {Q : PST} {res : HP × Nat} {h : HP} {q bc bs : Nat} (hQ : Q (.inl none) res.1 res.2) {v0 : Nat} (hf : b_X0_init_0 v0 h q bc bs  = some res) : SP l X M_X0_init 0 [(0, .ref v0)] [] h q bc bs Q := by
  rw [b_X0_init_0] at hf
  refine sp_aload_n (pc := 0) dX0_init_0 0 rfl ?_
  refine sp_objInit (pc := 1) bk_37 bk_30 bk_31 dX0_init_1 (by decide) (Nat.le_of_ble_eq_true rfl) ?_
  refine sp_aload_n (pc := 4) dX0_init_4 0 rfl ?_
  obtain ⟨b2, eb2, hf⟩ := ob hf
  obtain ⟨b3, eb3, hf⟩ := ob hf
  obtain ⟨h1, eh1, hf⟩ := ob hf
  obtain rfl := Option.some.inj eh1
  refine sp_new (pc := 5) (bc2 := b2) (bs2 := b3) nw_RX0_9 dX0_init_5 (tk_spec eb2) (tk_spec eb3) (fun hfr => ?_)
  refine sp_dup (pc := 8) dX0_init_8 rfl ?_
  refine sp_sipush (pc := 9) (v := 348) dX0_init_9 (by decide) ?_
  obtain ⟨b5, eb5, hf⟩ := ob hf
  obtain ⟨b6, eb6, hf⟩ := ob hf
  obtain ⟨y4, ey4, hf⟩ := ob hf
  refine sp_callIv (pc := 12) (z := M_X6_init) (As := [.int 348]) (b := q) (bc2 := b5) (bs2 := b6) (m_X6_init (Q := _) ⟨(), rfl, ?_⟩ ey4) rfl rfl rfl dX0_init_12 rfl ck_X0_init_11 (Nat.le_of_ble_eq_true rfl) (tk_spec eb5) (tk_spec eb6) rfl
  obtain ⟨h7, eh7, hf⟩ := ob hf
  refine sp_pRF (pc := 15) pf_RX0_14 rfl dX0_init_15 rfl rfl eh7 ?_
  refine sp_aload_n (pc := 18) dX0_init_18 0 rfl ?_
  refine sp_sipush (pc := 19) (v := 148) dX0_init_19 (by decide) ?_
  obtain ⟨b8, eb8, hf⟩ := ob hf
  obtain ⟨h9, eh9, hf⟩ := ob hf
  obtain rfl := Option.some.inj eh9
  obtain ⟨g1b8, g2b8, g3b8, g4b8⟩ := alN_spec eb8
  refine sp_anew3 (pc := 22) (bc2 := b8.1) (bs2 := b8.2) bk_64 tk_65 dX0_init_22 g1b8 rfl (Nat.le_trans (Nat.mul_le_mul_left _ (by decide)) g2b8) g3b8 g4b8 (fun hfr => ?_)
  obtain ⟨h10, eh10, hf⟩ := ob hf
  refine sp_pRF (pc := 25) pf_RX0_22 rfl dX0_init_25 rfl rfl eh10 ?_
  refine sp_aload_n (pc := 28) dX0_init_28 0 rfl ?_
  obtain ⟨b12, eb12, hf⟩ := ob hf
  obtain ⟨b13, eb13, hf⟩ := ob hf
  obtain ⟨h11, eh11, hf⟩ := ob hf
  obtain rfl := Option.some.inj eh11
  refine sp_new (pc := 29) (bc2 := b12) (bs2 := b13) nw_RX0_20 dX0_init_29 (tk_spec eb12) (tk_spec eb13) (fun hfr => ?_)
  refine sp_dup (pc := 32) dX0_init_32 rfl ?_
  obtain ⟨b15, eb15, hf⟩ := ob hf
  obtain ⟨b16, eb16, hf⟩ := ob hf
  obtain ⟨y14, ey14, hf⟩ := ob hf
  refine sp_callIv (pc := 33) (z := M_X2_init) (As := []) (b := (y4.2 + 1)) (bc2 := b15) (bs2 := b16) (m_X2_init (Q := _) ⟨(), rfl, ?_⟩ ey14) rfl rfl rfl dX0_init_33 rfl ck_X0_init_26 (Nat.le_of_ble_eq_true rfl) (tk_spec eb15) (tk_spec eb16) rfl
  obtain ⟨h17, eh17, hf⟩ := ob hf
  refine sp_pRF (pc := 36) pf_RX0_27 rfl dX0_init_36 rfl rfl eh17 ?_
  refine sp_aload_n (pc := 39) dX0_init_39 0 rfl ?_
  obtain ⟨b19, eb19, hf⟩ := ob hf
  obtain ⟨b20, eb20, hf⟩ := ob hf
  obtain ⟨h18, eh18, hf⟩ := ob hf
  obtain rfl := Option.some.inj eh18
  refine sp_new (pc := 40) (bc2 := b19) (bs2 := b20) nw_RX0_20 dX0_init_40 (tk_spec eb19) (tk_spec eb20) (fun hfr => ?_)
  refine sp_dup (pc := 43) dX0_init_43 rfl ?_
  obtain ⟨b22, eb22, hf⟩ := ob hf
  obtain ⟨b23, eb23, hf⟩ := ob hf
  obtain ⟨y21, ey21, hf⟩ := ob hf
  refine sp_callIv (pc := 44) (z := M_X2_init) (As := []) (b := y14.2) (bc2 := b22) (bs2 := b23) (m_X2_init (Q := _) ⟨(), rfl, ?_⟩ ey21) rfl rfl rfl dX0_init_44 rfl ck_X0_init_26 (Nat.le_of_ble_eq_true rfl) (tk_spec eb22) (tk_spec eb23) rfl
  obtain ⟨h24, eh24, hf⟩ := ob hf
  refine sp_pRF (pc := 47) pf_RX0_31 rfl dX0_init_47 rfl rfl eh24 ?_
  refine sp_aload_n (pc := 50) dX0_init_50 0 rfl ?_
  obtain ⟨b26, eb26, hf⟩ := ob hf
  obtain ⟨b27, eb27, hf⟩ := ob hf
  obtain ⟨h25, eh25, hf⟩ := ob hf
  obtain rfl := Option.some.inj eh25
  refine sp_new (pc := 51) (bc2 := b26) (bs2 := b27) nw_RX0_20 dX0_init_51 (tk_spec eb26) (tk_spec eb27) (fun hfr => ?_)
  refine sp_dup (pc := 54) dX0_init_54 rfl ?_
  obtain ⟨b29, eb29, hf⟩ := ob hf
  obtain ⟨b30, eb30, hf⟩ := ob hf
  obtain ⟨y28, ey28, hf⟩ := ob hf
  refine sp_callIv (pc := 55) (z := M_X2_init) (As := []) (b := y21.2) (bc2 := b29) (bs2 := b30) (m_X2_init (Q := _) ⟨(), rfl, ?_⟩ ey28) rfl rfl rfl dX0_init_55 rfl ck_X0_init_26 (Nat.le_of_ble_eq_true rfl) (tk_spec eb29) (tk_spec eb30) rfl
  obtain ⟨h31, eh31, hf⟩ := ob hf
  refine sp_pRF (pc := 58) pf_RX0_34 rfl dX0_init_58 rfl rfl eh31 ?_
  refine sp_iconst (pc := 61) (v := 0) dX0_init_61 (by decide) ?_
  refine sp_istore_n (pc := 62) (lv' := [(1, .int 0), (0, .ref v0)]) dX0_init_62 (by decide) rfl ?_
  exact sp_sub [1, 0] rfl (w_X0_init_63 hQ FU hf)

theorem m_X0_init {l : Launch} {Q : PST} {h : HP} {v0 : Nat} {sz : Nat} {res : HP × Nat} (hQ : Q (.inl none) res.1 res.2) (hf : f_X0_init h sz v0 = some res) : MM l M_X0_init [.ref v0] h sz Q := by
  rw [f_X0_init] at hf
  exact MM_of wok_X0_init (by decide +kernel) (Nat.le_of_ble_eq_true rfl) ((w_X0_init_0 hQ hf))

theorem dX6_empty_0 : decode (mB M_X6_empty) 0 = .ok (.aload_n 0, 1) := by decide +kernel
theorem dX6_empty_1 : decode (mB M_X6_empty) 1 = .ok (.iconst 0, 1) := by decide +kernel
theorem dX6_empty_2 : decode (mB M_X6_empty) 2 = .ok (.putfield 30, 3) := by decide +kernel
theorem dX6_empty_5 : decode (mB M_X6_empty) 5 = .ok (.return_, 1) := by decide +kernel
def b_X6_empty_0 (v0 : Nat) (h : HP) : Option (HP) :=
  (pI 6 4 h v0 0).bind fun h1 => some h1
def f_X6_empty (h : HP) (v0 : Nat) : Option (HP) := (kO 6 h v0).bind fun _ => b_X6_empty_0 v0 h
theorem w_X6_empty_0 {l : Launch} {X : SCR} {Q : PST} {bc bs : Nat} {res : HP} {h : HP} (hQ : ∀ sz', Q (.inl none) res sz') {v0 : Nat} {sz : Nat} (hf : b_X6_empty_0 v0 h  = some res) : SP l X M_X6_empty 0 [(0, .ref v0)] [] h sz bc bs Q := by
  rw [b_X6_empty_0] at hf
  refine sp_aload_n (pc := 0) dX6_empty_0 0 rfl ?_
  refine sp_iconst (pc := 1) (v := 0) dX6_empty_1 (by decide) ?_
  obtain ⟨h1, eh1, hf⟩ := ob hf
  refine sp_pI (pc := 2) pf_RX6_30 dX6_empty_2 eh1 (fun sz => ?_)
  obtain rfl := Option.some.inj hf
  exact sp_return (pc := 5) dX6_empty_5 rfl (hQ _)

theorem o_X6_empty {h : HP} {v0 : Nat} {res : HP} (hf : f_X6_empty h v0 = some res) : ∃ fs, h v0 = some (.inr (6, fs)) := by
  obtain ⟨u, eu, -⟩ := ob hf
  exact kO_spec eu

theorem m_X6_empty {l : Launch} {Q : PST} {h : HP} {v0 : Nat} {sz : Nat} {res : HP} (hQ : ∀ sz', Q (.inl none) res sz') (hf : f_X6_empty h v0 = some res) : MM l M_X6_empty [.ref v0] h sz Q := by
  obtain ⟨u, eu, hf⟩ := ob hf
  exact MM_of wok_X6_empty (by decide +kernel) (Nat.le_of_ble_eq_true rfl) ((w_X6_empty_0 hQ hf))

theorem dX3_startOf_0 : decode (mB M_X3_startOf) 0 = .ok (.aload_n 0, 1) := by decide +kernel
theorem dX3_startOf_1 : decode (mB M_X3_startOf) 1 = .ok (.getfield 34, 3) := by decide +kernel
theorem dX3_startOf_4 : decode (mB M_X3_startOf) 4 = .ok (.iconst 2, 1) := by decide +kernel
theorem dX3_startOf_5 : decode (mB M_X3_startOf) 5 = .ok (.isub, 1) := by decide +kernel
theorem dX3_startOf_6 : decode (mB M_X3_startOf) 6 = .ok (.iload_n 1, 1) := by decide +kernel
theorem dX3_startOf_7 : decode (mB M_X3_startOf) 7 = .ok (.isub, 1) := by decide +kernel
theorem dX3_startOf_8 : decode (mB M_X3_startOf) 8 = .ok (.istore_n 2, 1) := by decide +kernel
theorem dX3_startOf_9 : decode (mB M_X3_startOf) 9 = .ok (.iload_n 2, 1) := by decide +kernel
theorem dX3_startOf_10 : decode (mB M_X3_startOf) 10 = .ok (.ifCond .lt 20, 3) := by decide +kernel
theorem dX3_startOf_13 : decode (mB M_X3_startOf) 13 = .ok (.iload_n 2, 1) := by decide +kernel
theorem dX3_startOf_14 : decode (mB M_X3_startOf) 14 = .ok (.aload_n 0, 1) := by decide +kernel
theorem dX3_startOf_15 : decode (mB M_X3_startOf) 15 = .ok (.getfield 34, 3) := by decide +kernel
theorem dX3_startOf_18 : decode (mB M_X3_startOf) 18 = .ok (.if_icmp .ge 12, 3) := by decide +kernel
theorem dX3_startOf_21 : decode (mB M_X3_startOf) 21 = .ok (.aload_n 0, 1) := by decide +kernel
theorem dX3_startOf_22 : decode (mB M_X3_startOf) 22 = .ok (.getfield 9, 3) := by decide +kernel
theorem dX3_startOf_25 : decode (mB M_X3_startOf) 25 = .ok (.iload_n 2, 1) := by decide +kernel
theorem dX3_startOf_26 : decode (mB M_X3_startOf) 26 = .ok (.iaload, 1) := by decide +kernel
theorem dX3_startOf_27 : decode (mB M_X3_startOf) 27 = .ok (.goto 4, 3) := by decide +kernel
theorem dX3_startOf_30 : decode (mB M_X3_startOf) 30 = .ok (.iconst 0, 1) := by decide +kernel
theorem dX3_startOf_31 : decode (mB M_X3_startOf) 31 = .ok (.ireturn, 1) := by decide +kernel
def b_X3_startOf_0 (h : HP) (v0 : Nat) (v1 : Int32) : Option (Int32) :=
  (gI 3 4 h v0).bind fun x1 => if ((x1 - 2) - v1) < 0 then some (0) else (gI 3 4 h v0).bind fun x3 => if x3 ≤ ((x1 - 2) - v1) then some (0) else (gR 3 2 h v0).bind fun x5 => (aI h x5 ((x1 - 2) - v1)).bind fun x6 => some (x6)
def f_X3_startOf (h : HP) (v0 : Nat) (v1 : Int32) : Option (Int32) := (kO 3 h v0).bind fun _ => b_X3_startOf_0 h v0 v1
theorem w_X3_startOf_0 {l : Launch} {X : SCR} {Q : PST} {bc bs : Nat} {res : Int32} {h : HP} (hQ : ∀ sz', Q (.inl (some (.int res))) h sz') {v0 : Nat} {v1 : Int32} {sz : Nat} (hf : b_X3_startOf_0 h v0 v1  = some res) : SP l X M_X3_startOf 0 [(0, .ref v0), (1, .int v1)] [] h sz bc bs Q := by
  rw [b_X3_startOf_0] at hf
  refine sp_aload_n (pc := 0) dX3_startOf_0 0 rfl ?_
  obtain ⟨x1, ex1, hf⟩ := ob hf
  refine sp_gI (pc := 1) fl_RX3_34 dX3_startOf_1 ex1 ?_
  refine sp_iconst (pc := 4) (v := 2) dX3_startOf_4 (by decide) ?_
  refine sp_isub (pc := 5) dX3_startOf_5 ?_
  refine sp_iload_n (pc := 6) dX3_startOf_6 1 rfl ?_
  refine sp_isub (pc := 7) dX3_startOf_7 ?_
  refine sp_istore_n (pc := 8) (lv' := [(2, .int ((x1 - 2) - v1)), (0, .ref v0), (1, .int v1)]) dX3_startOf_8 (by decide) rfl ?_
  refine sp_iload_n (pc := 9) dX3_startOf_9 0 rfl ?_
  refine sp_if_lt (pc := 10) (tgt := 30) dX3_startOf_10 (by decide) (fun c2 => ?_) (fun c2 => ?_)
  · rw [if_pos c2] at hf
    refine sp_iconst (pc := 30) (v := 0) dX3_startOf_30 (by decide) ?_
    obtain rfl := Option.some.inj hf
    exact sp_ireturn (pc := 31) dX3_startOf_31 rfl rfl (hQ _)
  · rw [if_neg c2] at hf
    refine sp_iload_n (pc := 13) dX3_startOf_13 0 rfl ?_
    refine sp_aload_n (pc := 14) dX3_startOf_14 1 rfl ?_
    obtain ⟨x3, ex3, hf⟩ := ob hf
    refine sp_gI (pc := 15) fl_RX3_34 dX3_startOf_15 ex3 ?_
    refine sp_icmp_ge (pc := 18) (tgt := 30) dX3_startOf_18 (by decide) (fun c4 => ?_) (fun c4 => ?_)
    · rw [if_pos c4] at hf
      refine sp_iconst (pc := 30) (v := 0) dX3_startOf_30 (by decide) ?_
      obtain rfl := Option.some.inj hf
      exact sp_ireturn (pc := 31) dX3_startOf_31 rfl rfl (hQ _)
    · rw [if_neg c4] at hf
      refine sp_aload_n (pc := 21) dX3_startOf_21 1 rfl ?_
      obtain ⟨x5, ex5, hf⟩ := ob hf
      refine sp_gR (pc := 22) fl_RX3_9 dX3_startOf_22 ex5 ?_
      refine sp_iload_n (pc := 25) dX3_startOf_25 0 rfl ?_
      obtain ⟨x6, ex6, hf⟩ := ob hf
      refine sp_aI (pc := 26) dX3_startOf_26 ex6 ?_
      refine sp_goto (pc := 27) (tgt := 31) dX3_startOf_27 (by decide) ?_
      obtain rfl := Option.some.inj hf
      exact sp_ireturn (pc := 31) dX3_startOf_31 rfl rfl (hQ _)

theorem o_X3_startOf {h : HP} {v0 : Nat} {v1 : Int32} {res : Int32} (hf : f_X3_startOf h v0 v1 = some res) : ∃ fs, h v0 = some (.inr (3, fs)) := by
  obtain ⟨u, eu, -⟩ := ob hf
  exact kO_spec eu

theorem m_X3_startOf {l : Launch} {Q : PST} {h : HP} {v0 : Nat} {v1 : Int32} {sz : Nat} {res : Int32} (hQ : ∀ sz', Q (.inl (some (.int res))) h sz') (hf : f_X3_startOf h v0 v1 = some res) : MM l M_X3_startOf [.ref v0, .int v1] h sz Q := by
  obtain ⟨u, eu, hf⟩ := ob hf
  exact MM_of wok_X3_startOf (by decide +kernel) (Nat.le_of_ble_eq_true rfl) ((w_X3_startOf_0 hQ hf))

theorem dX6_size_0 : decode (mB M_X6_size) 0 = .ok (.aload_n 0, 1) := by decide +kernel
theorem dX6_size_1 : decode (mB M_X6_size) 1 = .ok (.getfield 30, 3) := by decide +kernel
theorem dX6_size_4 : decode (mB M_X6_size) 4 = .ok (.ireturn, 1) := by decide +kernel
def b_X6_size_0 (h : HP) (v0 : Nat) : Option (Int32) :=
  (gI 6 4 h v0).bind fun x1 => some (x1)
def f_X6_size (h : HP) (v0 : Nat) : Option (Int32) := (kO 6 h v0).bind fun _ => b_X6_size_0 h v0
theorem w_X6_size_0 {l : Launch} {X : SCR} {Q : PST} {bc bs : Nat} {res : Int32} {h : HP} (hQ : ∀ sz', Q (.inl (some (.int res))) h sz') {v0 : Nat} {sz : Nat} (hf : b_X6_size_0 h v0  = some res) : SP l X M_X6_size 0 [(0, .ref v0)] [] h sz bc bs Q := by
  rw [b_X6_size_0] at hf
  refine sp_aload_n (pc := 0) dX6_size_0 0 rfl ?_
  obtain ⟨x1, ex1, hf⟩ := ob hf
  refine sp_gI (pc := 1) fl_RX6_30 dX6_size_1 ex1 ?_
  obtain rfl := Option.some.inj hf
  exact sp_ireturn (pc := 4) dX6_size_4 rfl rfl (hQ _)

theorem o_X6_size {h : HP} {v0 : Nat} {res : Int32} (hf : f_X6_size h v0 = some res) : ∃ fs, h v0 = some (.inr (6, fs)) := by
  obtain ⟨u, eu, -⟩ := ob hf
  exact kO_spec eu

theorem m_X6_size {l : Launch} {Q : PST} {h : HP} {v0 : Nat} {sz : Nat} {res : Int32} (hQ : ∀ sz', Q (.inl (some (.int res))) h sz') (hf : f_X6_size h v0 = some res) : MM l M_X6_size [.ref v0] h sz Q := by
  obtain ⟨u, eu, hf⟩ := ob hf
  exact MM_of wok_X6_size (by decide +kernel) (Nat.le_of_ble_eq_true rfl) ((w_X6_size_0 hQ hf))

theorem dX3_endOf_0 : decode (mB M_X3_endOf) 0 = .ok (.aload_n 0, 1) := by decide +kernel
theorem dX3_endOf_1 : decode (mB M_X3_endOf) 1 = .ok (.getfield 34, 3) := by decide +kernel
theorem dX3_endOf_4 : decode (mB M_X3_endOf) 4 = .ok (.iconst 1, 1) := by decide +kernel
theorem dX3_endOf_5 : decode (mB M_X3_endOf) 5 = .ok (.isub, 1) := by decide +kernel
theorem dX3_endOf_6 : decode (mB M_X3_endOf) 6 = .ok (.iload_n 1, 1) := by decide +kernel
theorem dX3_endOf_7 : decode (mB M_X3_endOf) 7 = .ok (.isub, 1) := by decide +kernel
theorem dX3_endOf_8 : decode (mB M_X3_endOf) 8 = .ok (.istore_n 2, 1) := by decide +kernel
theorem dX3_endOf_9 : decode (mB M_X3_endOf) 9 = .ok (.iload_n 2, 1) := by decide +kernel
theorem dX3_endOf_10 : decode (mB M_X3_endOf) 10 = .ok (.ifCond .lt 20, 3) := by decide +kernel
theorem dX3_endOf_13 : decode (mB M_X3_endOf) 13 = .ok (.iload_n 2, 1) := by decide +kernel
theorem dX3_endOf_14 : decode (mB M_X3_endOf) 14 = .ok (.aload_n 0, 1) := by decide +kernel
theorem dX3_endOf_15 : decode (mB M_X3_endOf) 15 = .ok (.getfield 34, 3) := by decide +kernel
theorem dX3_endOf_18 : decode (mB M_X3_endOf) 18 = .ok (.if_icmp .ge 12, 3) := by decide +kernel
theorem dX3_endOf_21 : decode (mB M_X3_endOf) 21 = .ok (.aload_n 0, 1) := by decide +kernel
theorem dX3_endOf_22 : decode (mB M_X3_endOf) 22 = .ok (.getfield 9, 3) := by decide +kernel
theorem dX3_endOf_25 : decode (mB M_X3_endOf) 25 = .ok (.iload_n 2, 1) := by decide +kernel
theorem dX3_endOf_26 : decode (mB M_X3_endOf) 26 = .ok (.iaload, 1) := by decide +kernel
theorem dX3_endOf_27 : decode (mB M_X3_endOf) 27 = .ok (.goto 10, 3) := by decide +kernel
theorem dX3_endOf_30 : decode (mB M_X3_endOf) 30 = .ok (.aload_n 0, 1) := by decide +kernel
theorem dX3_endOf_31 : decode (mB M_X3_endOf) 31 = .ok (.getfield 27, 3) := by decide +kernel
theorem dX3_endOf_34 : decode (mB M_X3_endOf) 34 = .ok (.invokevirtual 47, 3) := by decide +kernel
theorem dX3_endOf_37 : decode (mB M_X3_endOf) 37 = .ok (.ireturn, 1) := by decide +kernel
def b_X3_endOf_30 (h : HP) (v0 : Nat) : Option (Int32) :=
  (gR 3 1 h v0).bind fun x1 => (f_X6_size h x1).bind fun y2 => some (y2)
def b_X3_endOf_0 (h : HP) (v0 : Nat) (v1 : Int32) : Option (Int32) :=
  (gI 3 4 h v0).bind fun x1 => if ((x1 - 1) - v1) < 0 then b_X3_endOf_30 h v0  else (gI 3 4 h v0).bind fun x3 => if x3 ≤ ((x1 - 1) - v1) then b_X3_endOf_30 h v0  else (gR 3 2 h v0).bind fun x5 => (aI h x5 ((x1 - 1) - v1)).bind fun x6 => some (x6)
def f_X3_endOf (h : HP) (v0 : Nat) (v1 : Int32) : Option (Int32) := (kO 3 h v0).bind fun _ => b_X3_endOf_0 h v0 v1
theorem w_X3_endOf_30 {l : Launch} {X : SCR} {Q : PST} {bc bs : Nat} {res : Int32} {h : HP} (hQ : ∀ sz', Q (.inl (some (.int res))) h sz') {v0 : Nat} {sz : Nat} (hf : b_X3_endOf_30 h v0  = some res) : SP l X M_X3_endOf 30 [(0, .ref v0)] [] h sz bc bs Q := by
  rw [b_X3_endOf_30] at hf
  refine sp_aload_n (pc := 30) dX3_endOf_30 0 rfl ?_
  obtain ⟨x1, ex1, hf⟩ := ob hf
  refine sp_gR (pc := 31) fl_RX3_27 dX3_endOf_31 ex1 ?_
  obtain ⟨y2, ey2, hf⟩ := ob hf
  obtain ⟨fsy2, hoy2⟩ := o_X6_size ey2
  refine sp_callVi (pc := 34) (z := M_X6_size) (As := []) (b := x1) (bc2 := bc) (bs2 := bs) (m_X6_size (Q := _) (fun sz => ⟨y2, rfl, ?_⟩) ey2) rfl dX3_endOf_34 hoy2 rfl rfl ck_X3_endOf_47 (Nat.le_of_ble_eq_true rfl) rfl rfl rfl
  obtain rfl := Option.some.inj hf
  exact sp_ireturn (pc := 37) dX3_endOf_37 rfl rfl (hQ _)

theorem w_X3_endOf_0 {l : Launch} {X : SCR} {Q : PST} {bc bs : Nat} {res : Int32} {h : HP} (hQ : ∀ sz', Q (.inl (some (.int res))) h sz') {v0 : Nat} {v1 : Int32} {sz : Nat} (hf : b_X3_endOf_0 h v0 v1  = some res) : SP l X M_X3_endOf 0 [(0, .ref v0), (1, .int v1)] [] h sz bc bs Q := by
  rw [b_X3_endOf_0] at hf
  refine sp_aload_n (pc := 0) dX3_endOf_0 0 rfl ?_
  obtain ⟨x1, ex1, hf⟩ := ob hf
  refine sp_gI (pc := 1) fl_RX3_34 dX3_endOf_1 ex1 ?_
  refine sp_iconst (pc := 4) (v := 1) dX3_endOf_4 (by decide) ?_
  refine sp_isub (pc := 5) dX3_endOf_5 ?_
  refine sp_iload_n (pc := 6) dX3_endOf_6 1 rfl ?_
  refine sp_isub (pc := 7) dX3_endOf_7 ?_
  refine sp_istore_n (pc := 8) (lv' := [(2, .int ((x1 - 1) - v1)), (0, .ref v0), (1, .int v1)]) dX3_endOf_8 (by decide) rfl ?_
  refine sp_iload_n (pc := 9) dX3_endOf_9 0 rfl ?_
  refine sp_if_lt (pc := 10) (tgt := 30) dX3_endOf_10 (by decide) (fun c2 => ?_) (fun c2 => ?_)
  · rw [if_pos c2] at hf
    exact sp_sub [1] rfl (w_X3_endOf_30 hQ hf)
  · rw [if_neg c2] at hf
    refine sp_iload_n (pc := 13) dX3_endOf_13 0 rfl ?_
    refine sp_aload_n (pc := 14) dX3_endOf_14 1 rfl ?_
    obtain ⟨x3, ex3, hf⟩ := ob hf
    refine sp_gI (pc := 15) fl_RX3_34 dX3_endOf_15 ex3 ?_
    refine sp_icmp_ge (pc := 18) (tgt := 30) dX3_endOf_18 (by decide) (fun c4 => ?_) (fun c4 => ?_)
    · rw [if_pos c4] at hf
      exact sp_sub [1] rfl (w_X3_endOf_30 hQ hf)
    · rw [if_neg c4] at hf
      refine sp_aload_n (pc := 21) dX3_endOf_21 1 rfl ?_
      obtain ⟨x5, ex5, hf⟩ := ob hf
      refine sp_gR (pc := 22) fl_RX3_9 dX3_endOf_22 ex5 ?_
      refine sp_iload_n (pc := 25) dX3_endOf_25 0 rfl ?_
      obtain ⟨x6, ex6, hf⟩ := ob hf
      refine sp_aI (pc := 26) dX3_endOf_26 ex6 ?_
      refine sp_goto (pc := 27) (tgt := 37) dX3_endOf_27 (by decide) ?_
      obtain rfl := Option.some.inj hf
      exact sp_ireturn (pc := 37) dX3_endOf_37 rfl rfl (hQ _)

theorem o_X3_endOf {h : HP} {v0 : Nat} {v1 : Int32} {res : Int32} (hf : f_X3_endOf h v0 v1 = some res) : ∃ fs, h v0 = some (.inr (3, fs)) := by
  obtain ⟨u, eu, -⟩ := ob hf
  exact kO_spec eu

theorem m_X3_endOf {l : Launch} {Q : PST} {h : HP} {v0 : Nat} {v1 : Int32} {sz : Nat} {res : Int32} (hQ : ∀ sz', Q (.inl (some (.int res))) h sz') (hf : f_X3_endOf h v0 v1 = some res) : MM l M_X3_endOf [.ref v0, .int v1] h sz Q := by
  obtain ⟨u, eu, hf⟩ := ob hf
  exact MM_of wok_X3_endOf (by decide +kernel) (Nat.le_of_ble_eq_true rfl) ((w_X3_endOf_0 hQ hf))

theorem dX6_numberAt_0 : decode (mB M_X6_numberAt) 0 = .ok (.iload_n 1, 1) := by decide +kernel
theorem dX6_numberAt_1 : decode (mB M_X6_numberAt) 1 = .ok (.ifCond .lt 20, 3) := by decide +kernel
theorem dX6_numberAt_4 : decode (mB M_X6_numberAt) 4 = .ok (.iload_n 1, 1) := by decide +kernel
theorem dX6_numberAt_5 : decode (mB M_X6_numberAt) 5 = .ok (.aload_n 0, 1) := by decide +kernel
theorem dX6_numberAt_6 : decode (mB M_X6_numberAt) 6 = .ok (.getfield 30, 3) := by decide +kernel
theorem dX6_numberAt_9 : decode (mB M_X6_numberAt) 9 = .ok (.if_icmp .ge 12, 3) := by decide +kernel
theorem dX6_numberAt_12 : decode (mB M_X6_numberAt) 12 = .ok (.aload_n 0, 1) := by decide +kernel
theorem dX6_numberAt_13 : decode (mB M_X6_numberAt) 13 = .ok (.getfield 15, 3) := by decide +kernel
theorem dX6_numberAt_16 : decode (mB M_X6_numberAt) 16 = .ok (.iload_n 1, 1) := by decide +kernel
theorem dX6_numberAt_17 : decode (mB M_X6_numberAt) 17 = .ok (.iaload, 1) := by decide +kernel
theorem dX6_numberAt_18 : decode (mB M_X6_numberAt) 18 = .ok (.goto 4, 3) := by decide +kernel
theorem dX6_numberAt_21 : decode (mB M_X6_numberAt) 21 = .ok (.iconst (-1), 1) := by decide +kernel
theorem dX6_numberAt_22 : decode (mB M_X6_numberAt) 22 = .ok (.ireturn, 1) := by decide +kernel
def b_X6_numberAt_0 (h : HP) (v0 : Nat) (v1 : Int32) : Option (Int32) :=
  if v1 < 0 then some ((-1)) else (gI 6 4 h v0).bind fun x2 => if x2 ≤ v1 then some ((-1)) else (gR 6 0 h v0).bind fun x4 => (aI h x4 v1).bind fun x5 => some (x5)
def f_X6_numberAt (h : HP) (v0 : Nat) (v1 : Int32) : Option (Int32) := (kO 6 h v0).bind fun _ => b_X6_numberAt_0 h v0 v1
theorem w_X6_numberAt_0 {l : Launch} {X : SCR} {Q : PST} {bc bs : Nat} {res : Int32} {h : HP} (hQ : ∀ sz', Q (.inl (some (.int res))) h sz') {v0 : Nat} {v1 : Int32} {sz : Nat} (hf : b_X6_numberAt_0 h v0 v1  = some res) : SP l X M_X6_numberAt 0 [(0, .ref v0), (1, .int v1)] [] h sz bc bs Q := by
  rw [b_X6_numberAt_0] at hf
  refine sp_iload_n (pc := 0) dX6_numberAt_0 1 rfl ?_
  refine sp_if_lt (pc := 1) (tgt := 21) dX6_numberAt_1 (by decide) (fun c1 => ?_) (fun c1 => ?_)
  · rw [if_pos c1] at hf
    refine sp_iconst (pc := 21) (v := (-1)) dX6_numberAt_21 (by decide) ?_
    obtain rfl := Option.some.inj hf
    exact sp_ireturn (pc := 22) dX6_numberAt_22 rfl rfl (hQ _)
  · rw [if_neg c1] at hf
    refine sp_iload_n (pc := 4) dX6_numberAt_4 1 rfl ?_
    refine sp_aload_n (pc := 5) dX6_numberAt_5 0 rfl ?_
    obtain ⟨x2, ex2, hf⟩ := ob hf
    refine sp_gI (pc := 6) fl_RX6_30 dX6_numberAt_6 ex2 ?_
    refine sp_icmp_ge (pc := 9) (tgt := 21) dX6_numberAt_9 (by decide) (fun c3 => ?_) (fun c3 => ?_)
    · rw [if_pos c3] at hf
      refine sp_iconst (pc := 21) (v := (-1)) dX6_numberAt_21 (by decide) ?_
      obtain rfl := Option.some.inj hf
      exact sp_ireturn (pc := 22) dX6_numberAt_22 rfl rfl (hQ _)
    · rw [if_neg c3] at hf
      refine sp_aload_n (pc := 12) dX6_numberAt_12 0 rfl ?_
      obtain ⟨x4, ex4, hf⟩ := ob hf
      refine sp_gR (pc := 13) fl_RX6_15 dX6_numberAt_13 ex4 ?_
      refine sp_iload_n (pc := 16) dX6_numberAt_16 1 rfl ?_
      obtain ⟨x5, ex5, hf⟩ := ob hf
      refine sp_aI (pc := 17) dX6_numberAt_17 ex5 ?_
      refine sp_goto (pc := 18) (tgt := 22) dX6_numberAt_18 (by decide) ?_
      obtain rfl := Option.some.inj hf
      exact sp_ireturn (pc := 22) dX6_numberAt_22 rfl rfl (hQ _)

theorem o_X6_numberAt {h : HP} {v0 : Nat} {v1 : Int32} {res : Int32} (hf : f_X6_numberAt h v0 v1 = some res) : ∃ fs, h v0 = some (.inr (6, fs)) := by
  obtain ⟨u, eu, -⟩ := ob hf
  exact kO_spec eu

theorem m_X6_numberAt {l : Launch} {Q : PST} {h : HP} {v0 : Nat} {v1 : Int32} {sz : Nat} {res : Int32} (hQ : ∀ sz', Q (.inl (some (.int res))) h sz') (hf : f_X6_numberAt h v0 v1 = some res) : MM l M_X6_numberAt [.ref v0, .int v1] h sz Q := by
  obtain ⟨u, eu, hf⟩ := ob hf
  exact MM_of wok_X6_numberAt (by decide +kernel) (Nat.le_of_ble_eq_true rfl) ((w_X6_numberAt_0 hQ hf))

theorem dX3_eyesBefore_0 : decode (mB M_X3_eyesBefore) 0 = .ok (.iconst 0, 1) := by decide +kernel
theorem dX3_eyesBefore_1 : decode (mB M_X3_eyesBefore) 1 = .ok (.istore_n 2, 1) := by decide +kernel
theorem dX3_eyesBefore_2 : decode (mB M_X3_eyesBefore) 2 = .ok (.iconst 0, 1) := by decide +kernel
theorem dX3_eyesBefore_3 : decode (mB M_X3_eyesBefore) 3 = .ok (.istore_n 3, 1) := by decide +kernel
theorem dX3_eyesBefore_4 : decode (mB M_X3_eyesBefore) 4 = .ok (.iload_n 3, 1) := by decide +kernel
theorem dX3_eyesBefore_5 : decode (mB M_X3_eyesBefore) 5 = .ok (.aload_n 0, 1) := by decide +kernel
theorem dX3_eyesBefore_6 : decode (mB M_X3_eyesBefore) 6 = .ok (.getfield 38, 3) := by decide +kernel
theorem dX3_eyesBefore_9 : decode (mB M_X3_eyesBefore) 9 = .ok (.if_icmp .ge 22, 3) := by decide +kernel
theorem dX3_eyesBefore_12 : decode (mB M_X3_eyesBefore) 12 = .ok (.aload_n 0, 1) := by decide +kernel
theorem dX3_eyesBefore_13 : decode (mB M_X3_eyesBefore) 13 = .ok (.getfield 15, 3) := by decide +kernel
theorem dX3_eyesBefore_16 : decode (mB M_X3_eyesBefore) 16 = .ok (.iload_n 3, 1) := by decide +kernel
theorem dX3_eyesBefore_17 : decode (mB M_X3_eyesBefore) 17 = .ok (.iaload, 1) := by decide +kernel
theorem dX3_eyesBefore_18 : decode (mB M_X3_eyesBefore) 18 = .ok (.iload_n 1, 1) := by decide +kernel
theorem dX3_eyesBefore_19 : decode (mB M_X3_eyesBefore) 19 = .ok (.if_icmp .ge 6, 3) := by decide +kernel
theorem dX3_eyesBefore_22 : decode (mB M_X3_eyesBefore) 22 = .ok (.iinc 2 1, 3) := by decide +kernel
theorem dX3_eyesBefore_25 : decode (mB M_X3_eyesBefore) 25 = .ok (.iinc 3 1, 3) := by decide +kernel
theorem dX3_eyesBefore_28 : decode (mB M_X3_eyesBefore) 28 = .ok (.goto (-24), 3) := by decide +kernel
theorem dX3_eyesBefore_31 : decode (mB M_X3_eyesBefore) 31 = .ok (.iload_n 2, 1) := by decide +kernel
theorem dX3_eyesBefore_32 : decode (mB M_X3_eyesBefore) 32 = .ok (.ireturn, 1) := by decide +kernel
def c_X3_eyesBefore_4 (h : HP) (v0 : Nat) (v1 : Int32) (k4 : Int32 → Int32 → Option (Int32)) (v2 : Int32) (v3 : Int32) : Option (Int32) :=
  (gI 3 5 h v0).bind fun x1 => if x1 ≤ v3 then some (v2) else (gR 3 3 h v0).bind fun x3 => (aI h x3 v3).bind fun x4 => if v1 ≤ x4 then k4 v2 (v3 + 1) else k4 (v2 + 1) (v3 + 1)
def b_X3_eyesBefore_4 (h : HP) (v0 : Nat) (v1 : Int32) : Nat → Int32 → Int32 → Option (Int32)
  | 0, _, _ => none
  | n + 1, v2, v3 => c_X3_eyesBefore_4 h v0 v1 (b_X3_eyesBefore_4 h v0 v1 n) v2 v3
def b_X3_eyesBefore_0 (h : HP) (v0 : Nat) (v1 : Int32) : Option (Int32) :=
  b_X3_eyesBefore_4 h v0 v1 FU 0 0
def f_X3_eyesBefore (h : HP) (v0 : Nat) (v1 : Int32) : Option (Int32) := (kO 3 h v0).bind fun _ => b_X3_eyesBefore_0 h v0 v1
theorem wc_X3_eyesBefore_4 {l : Launch} {X : SCR} {Q : PST} {bc bs : Nat} {res : Int32} {h : HP} (hQ : ∀ sz', Q (.inl (some (.int res))) h sz') {v0 : Nat} {v1 : Int32} {k4 : Int32 → Int32 → Option (Int32)} (hk4 : ∀ (v2 : Int32) (v3 : Int32) (sz : Nat), k4 v2 v3 = some res → SP l X M_X3_eyesBefore 4 [(0, .ref v0), (1, .int v1), (2, .int v2), (3, .int v3)] [] h sz bc bs Q) {v2 : Int32} {v3 : Int32} {sz : Nat} (hf : c_X3_eyesBefore_4 h v0 v1 k4 v2 v3 = some res) : SP l X M_X3_eyesBefore 4 [(0, .ref v0), (1, .int v1), (2, .int v2), (3, .int v3)] [] h sz bc bs Q := by
  rw [c_X3_eyesBefore_4] at hf
  refine sp_iload_n (pc := 4) dX3_eyesBefore_4 3 rfl ?_
  refine sp_aload_n (pc := 5) dX3_eyesBefore_5 0 rfl ?_
  obtain ⟨x1, ex1, hf⟩ := ob hf
  refine sp_gI (pc := 6) fl_RX3_38 dX3_eyesBefore_6 ex1 ?_
  refine sp_icmp_ge (pc := 9) (tgt := 31) dX3_eyesBefore_9 (by decide) (fun c2 => ?_) (fun c2 => ?_)
  · rw [if_pos c2] at hf
    refine sp_iload_n (pc := 31) dX3_eyesBefore_31 2 rfl ?_
    obtain rfl := Option.some.inj hf
    exact sp_ireturn (pc := 32) dX3_eyesBefore_32 rfl rfl (hQ _)
  · rw [if_neg c2] at hf
    refine sp_aload_n (pc := 12) dX3_eyesBefore_12 0 rfl ?_
    obtain ⟨x3, ex3, hf⟩ := ob hf
    refine sp_gR (pc := 13) fl_RX3_15 dX3_eyesBefore_13 ex3 ?_
    refine sp_iload_n (pc := 16) dX3_eyesBefore_16 3 rfl ?_
    obtain ⟨x4, ex4, hf⟩ := ob hf
    refine sp_aI (pc := 17) dX3_eyesBefore_17 ex4 ?_
    refine sp_iload_n (pc := 18) dX3_eyesBefore_18 1 rfl ?_
    refine sp_icmp_ge (pc := 19) (tgt := 25) dX3_eyesBefore_19 (by decide) (fun c5 => ?_) (fun c5 => ?_)
    · rw [if_pos c5] at hf
      refine sp_iinc (pc := 25) (v := v3 + 1) (lv' := [(3, .int (v3 + 1)), (0, .ref v0), (1, .int v1), (2, .int v2)]) dX3_eyesBefore_25 3 rfl rfl (by decide) rfl ?_
      refine sp_goto (pc := 28) (tgt := 4) dX3_eyesBefore_28 (by decide) ?_
      exact sp_sub [1, 2, 3, 0] rfl (hk4 _ _ _ hf)
    · rw [if_neg c5] at hf
      refine sp_iinc (pc := 22) (v := v2 + 1) (lv' := [(2, .int (v2 + 1)), (0, .ref v0), (1, .int v1), (3, .int v3)]) dX3_eyesBefore_22 2 rfl rfl (by decide) rfl ?_
      refine sp_iinc (pc := 25) (v := v3 + 1) (lv' := [(3, .int (v3 + 1)), (2, .int (v2 + 1)), (0, .ref v0), (1, .int v1)]) dX3_eyesBefore_25 3 rfl rfl (by decide) rfl ?_
      refine sp_goto (pc := 28) (tgt := 4) dX3_eyesBefore_28 (by decide) ?_
      exact sp_sub [2, 3, 1, 0] rfl (hk4 _ _ _ hf)

theorem w_X3_eyesBefore_4 {l : Launch} {X : SCR} {Q : PST} {bc bs : Nat} {res : Int32} {h : HP} (hQ : ∀ sz', Q (.inl (some (.int res))) h sz') {v0 : Nat} {v1 : Int32} : ∀ (n : Nat) {v2 : Int32} {v3 : Int32} {sz : Nat}, b_X3_eyesBefore_4 h v0 v1 n v2 v3 = some res → SP l X M_X3_eyesBefore 4 [(0, .ref v0), (1, .int v1), (2, .int v2), (3, .int v3)] [] h sz bc bs Q := by
  intro n
  induction n with
  | zero =>
    intro v2 v3 sz hf
    rw [b_X3_eyesBefore_4] at hf
    cases hf
  | succ n ih =>
    intro v2 v3 sz hf
    rw [b_X3_eyesBefore_4] at hf
    exact wc_X3_eyesBefore_4 hQ (fun v2 v3 sz hf => ih hf) hf

theorem w_X3_eyesBefore_0 {l : Launch} {X : SCR} {Q : PST} {bc bs : Nat} {res : Int32} {h : HP} (hQ : ∀ sz', Q (.inl (some (.int res))) h sz') {v0 : Nat} {v1 : Int32} {sz : Nat} (hf : b_X3_eyesBefore_0 h v0 v1  = some res) : SP l X M_X3_eyesBefore 0 [(0, .ref v0), (1, .int v1)] [] h sz bc bs Q := by
  rw [b_X3_eyesBefore_0] at hf
  refine sp_iconst (pc := 0) (v := 0) dX3_eyesBefore_0 (by decide) ?_
  refine sp_istore_n (pc := 1) (lv' := [(2, .int 0), (0, .ref v0), (1, .int v1)]) dX3_eyesBefore_1 (by decide) rfl ?_
  refine sp_iconst (pc := 2) (v := 0) dX3_eyesBefore_2 (by decide) ?_
  refine sp_istore_n (pc := 3) (lv' := [(3, .int 0), (2, .int 0), (0, .ref v0), (1, .int v1)]) dX3_eyesBefore_3 (by decide) rfl ?_
  exact sp_sub [2, 3, 1, 0] rfl (w_X3_eyesBefore_4 hQ FU hf)

theorem o_X3_eyesBefore {h : HP} {v0 : Nat} {v1 : Int32} {res : Int32} (hf : f_X3_eyesBefore h v0 v1 = some res) : ∃ fs, h v0 = some (.inr (3, fs)) := by
  obtain ⟨u, eu, -⟩ := ob hf
  exact kO_spec eu

theorem m_X3_eyesBefore {l : Launch} {Q : PST} {h : HP} {v0 : Nat} {v1 : Int32} {sz : Nat} {res : Int32} (hQ : ∀ sz', Q (.inl (some (.int res))) h sz') (hf : f_X3_eyesBefore h v0 v1 = some res) : MM l M_X3_eyesBefore [.ref v0, .int v1] h sz Q := by
  obtain ⟨u, eu, hf⟩ := ob hf
  exact MM_of wok_X3_eyesBefore (by decide +kernel) (Nat.le_of_ble_eq_true rfl) ((w_X3_eyesBefore_0 hQ hf))

theorem dX2_empty_0 : decode (mB M_X2_empty) 0 = .ok (.aload_n 0, 1) := by decide +kernel
theorem dX2_empty_1 : decode (mB M_X2_empty) 1 = .ok (.lconst 0, 1) := by decide +kernel
theorem dX2_empty_2 : decode (mB M_X2_empty) 2 = .ok (.putfield 9, 3) := by decide +kernel
theorem dX2_empty_5 : decode (mB M_X2_empty) 5 = .ok (.aload_n 0, 1) := by decide +kernel
theorem dX2_empty_6 : decode (mB M_X2_empty) 6 = .ok (.lconst 0, 1) := by decide +kernel
theorem dX2_empty_7 : decode (mB M_X2_empty) 7 = .ok (.putfield 15, 3) := by decide +kernel
theorem dX2_empty_10 : decode (mB M_X2_empty) 10 = .ok (.return_, 1) := by decide +kernel
def b_X2_empty_0 (v0 : Nat) (h : HP) : Option (HP) :=
  (pL 2 0 h v0 0).bind fun h1 => (pL 2 1 h1 v0 0).bind fun h2 => some h2
def f_X2_empty (h : HP) (v0 : Nat) : Option (HP) := (kO 2 h v0).bind fun _ => b_X2_empty_0 v0 h
theorem w_X2_empty_0 {l : Launch} {X : SCR} {Q : PST} {bc bs : Nat} {res : HP} {h : HP} (hQ : ∀ sz', Q (.inl none) res sz') {v0 : Nat} {sz : Nat} (hf : b_X2_empty_0 v0 h  = some res) : SP l X M_X2_empty 0 [(0, .ref v0)] [] h sz bc bs Q := by
  rw [b_X2_empty_0] at hf
  refine sp_aload_n (pc := 0) dX2_empty_0 0 rfl ?_
  refine sp_lconst (pc := 1) (v := 0) dX2_empty_1 (by decide) ?_
  obtain ⟨h1, eh1, hf⟩ := ob hf
  refine sp_pL (pc := 2) pf_RX2_9 dX2_empty_2 eh1 (fun sz => ?_)
  refine sp_aload_n (pc := 5) dX2_empty_5 0 rfl ?_
  refine sp_lconst (pc := 6) (v := 0) dX2_empty_6 (by decide) ?_
  obtain ⟨h2, eh2, hf⟩ := ob hf
  refine sp_pL (pc := 7) pf_RX2_15 dX2_empty_7 eh2 (fun sz => ?_)
  obtain rfl := Option.some.inj hf
  exact sp_return (pc := 10) dX2_empty_10 rfl (hQ _)

theorem o_X2_empty {h : HP} {v0 : Nat} {res : HP} (hf : f_X2_empty h v0 = some res) : ∃ fs, h v0 = some (.inr (2, fs)) := by
  obtain ⟨u, eu, -⟩ := ob hf
  exact kO_spec eu

theorem m_X2_empty {l : Launch} {Q : PST} {h : HP} {v0 : Nat} {sz : Nat} {res : HP} (hQ : ∀ sz', Q (.inl none) res sz') (hf : f_X2_empty h v0 = some res) : MM l M_X2_empty [.ref v0] h sz Q := by
  obtain ⟨u, eu, hf⟩ := ob hf
  exact MM_of wok_X2_empty (by decide +kernel) (Nat.le_of_ble_eq_true rfl) ((w_X2_empty_0 hQ hf))

theorem dX6_firstAt_0 : decode (mB M_X6_firstAt) 0 = .ok (.iload_n 1, 1) := by decide +kernel
theorem dX6_firstAt_1 : decode (mB M_X6_firstAt) 1 = .ok (.ifCond .lt 20, 3) := by decide +kernel
theorem dX6_firstAt_4 : decode (mB M_X6_firstAt) 4 = .ok (.iload_n 1, 1) := by decide +kernel
theorem dX6_firstAt_5 : decode (mB M_X6_firstAt) 5 = .ok (.aload_n 0, 1) := by decide +kernel
theorem dX6_firstAt_6 : decode (mB M_X6_firstAt) 6 = .ok (.getfield 30, 3) := by decide +kernel
theorem dX6_firstAt_9 : decode (mB M_X6_firstAt) 9 = .ok (.if_icmp .ge 12, 3) := by decide +kernel
theorem dX6_firstAt_12 : decode (mB M_X6_firstAt) 12 = .ok (.aload_n 0, 1) := by decide +kernel
theorem dX6_firstAt_13 : decode (mB M_X6_firstAt) 13 = .ok (.getfield 21, 3) := by decide +kernel
theorem dX6_firstAt_16 : decode (mB M_X6_firstAt) 16 = .ok (.iload_n 1, 1) := by decide +kernel
theorem dX6_firstAt_17 : decode (mB M_X6_firstAt) 17 = .ok (.iaload, 1) := by decide +kernel
theorem dX6_firstAt_18 : decode (mB M_X6_firstAt) 18 = .ok (.goto 4, 3) := by decide +kernel
theorem dX6_firstAt_21 : decode (mB M_X6_firstAt) 21 = .ok (.iconst (-1), 1) := by decide +kernel
theorem dX6_firstAt_22 : decode (mB M_X6_firstAt) 22 = .ok (.ireturn, 1) := by decide +kernel
def b_X6_firstAt_0 (h : HP) (v0 : Nat) (v1 : Int32) : Option (Int32) :=
  if v1 < 0 then some ((-1)) else (gI 6 4 h v0).bind fun x2 => if x2 ≤ v1 then some ((-1)) else (gR 6 1 h v0).bind fun x4 => (aI h x4 v1).bind fun x5 => some (x5)
def f_X6_firstAt (h : HP) (v0 : Nat) (v1 : Int32) : Option (Int32) := (kO 6 h v0).bind fun _ => b_X6_firstAt_0 h v0 v1
theorem w_X6_firstAt_0 {l : Launch} {X : SCR} {Q : PST} {bc bs : Nat} {res : Int32} {h : HP} (hQ : ∀ sz', Q (.inl (some (.int res))) h sz') {v0 : Nat} {v1 : Int32} {sz : Nat} (hf : b_X6_firstAt_0 h v0 v1  = some res) : SP l X M_X6_firstAt 0 [(0, .ref v0), (1, .int v1)] [] h sz bc bs Q := by
  rw [b_X6_firstAt_0] at hf
  refine sp_iload_n (pc := 0) dX6_firstAt_0 1 rfl ?_
  refine sp_if_lt (pc := 1) (tgt := 21) dX6_firstAt_1 (by decide) (fun c1 => ?_) (fun c1 => ?_)
  · rw [if_pos c1] at hf
    refine sp_iconst (pc := 21) (v := (-1)) dX6_firstAt_21 (by decide) ?_
    obtain rfl := Option.some.inj hf
    exact sp_ireturn (pc := 22) dX6_firstAt_22 rfl rfl (hQ _)
  · rw [if_neg c1] at hf
    refine sp_iload_n (pc := 4) dX6_firstAt_4 1 rfl ?_
    refine sp_aload_n (pc := 5) dX6_firstAt_5 0 rfl ?_
    obtain ⟨x2, ex2, hf⟩ := ob hf
    refine sp_gI (pc := 6) fl_RX6_30 dX6_firstAt_6 ex2 ?_
    refine sp_icmp_ge (pc := 9) (tgt := 21) dX6_firstAt_9 (by decide) (fun c3 => ?_) (fun c3 => ?_)
    · rw [if_pos c3] at hf
      refine sp_iconst (pc := 21) (v := (-1)) dX6_firstAt_21 (by decide) ?_
      obtain rfl := Option.some.inj hf
      exact sp_ireturn (pc := 22) dX6_firstAt_22 rfl rfl (hQ _)
    · rw [if_neg c3] at hf
      refine sp_aload_n (pc := 12) dX6_firstAt_12 0 rfl ?_
      obtain ⟨x4, ex4, hf⟩ := ob hf
      refine sp_gR (pc := 13) fl_RX6_21 dX6_firstAt_13 ex4 ?_
      refine sp_iload_n (pc := 16) dX6_firstAt_16 1 rfl ?_
      obtain ⟨x5, ex5, hf⟩ := ob hf
      refine sp_aI (pc := 17) dX6_firstAt_17 ex5 ?_
      refine sp_goto (pc := 18) (tgt := 22) dX6_firstAt_18 (by decide) ?_
      obtain rfl := Option.some.inj hf
      exact sp_ireturn (pc := 22) dX6_firstAt_22 rfl rfl (hQ _)

theorem o_X6_firstAt {h : HP} {v0 : Nat} {v1 : Int32} {res : Int32} (hf : f_X6_firstAt h v0 v1 = some res) : ∃ fs, h v0 = some (.inr (6, fs)) := by
  obtain ⟨u, eu, -⟩ := ob hf
  exact kO_spec eu

theorem m_X6_firstAt {l : Launch} {Q : PST} {h : HP} {v0 : Nat} {v1 : Int32} {sz : Nat} {res : Int32} (hQ : ∀ sz', Q (.inl (some (.int res))) h sz') (hf : f_X6_firstAt h v0 v1 = some res) : MM l M_X6_firstAt [.ref v0, .int v1] h sz Q := by
  obtain ⟨u, eu, hf⟩ := ob hf
  exact MM_of wok_X6_firstAt (by decide +kernel) (Nat.le_of_ble_eq_true rfl) ((w_X6_firstAt_0 hQ hf))

theorem dX6_lastAt_0 : decode (mB M_X6_lastAt) 0 = .ok (.iload_n 1, 1) := by decide +kernel
theorem dX6_lastAt_1 : decode (mB M_X6_lastAt) 1 = .ok (.ifCond .lt 20, 3) := by decide +kernel
theorem dX6_lastAt_4 : decode (mB M_X6_lastAt) 4 = .ok (.iload_n 1, 1) := by decide +kernel
theorem dX6_lastAt_5 : decode (mB M_X6_lastAt) 5 = .ok (.aload_n 0, 1) := by decide +kernel
theorem dX6_lastAt_6 : decode (mB M_X6_lastAt) 6 = .ok (.getfield 30, 3) := by decide +kernel
theorem dX6_lastAt_9 : decode (mB M_X6_lastAt) 9 = .ok (.if_icmp .ge 12, 3) := by decide +kernel
theorem dX6_lastAt_12 : decode (mB M_X6_lastAt) 12 = .ok (.aload_n 0, 1) := by decide +kernel
theorem dX6_lastAt_13 : decode (mB M_X6_lastAt) 13 = .ok (.getfield 24, 3) := by decide +kernel
theorem dX6_lastAt_16 : decode (mB M_X6_lastAt) 16 = .ok (.iload_n 1, 1) := by decide +kernel
theorem dX6_lastAt_17 : decode (mB M_X6_lastAt) 17 = .ok (.iaload, 1) := by decide +kernel
theorem dX6_lastAt_18 : decode (mB M_X6_lastAt) 18 = .ok (.goto 4, 3) := by decide +kernel
theorem dX6_lastAt_21 : decode (mB M_X6_lastAt) 21 = .ok (.iconst (-1), 1) := by decide +kernel
theorem dX6_lastAt_22 : decode (mB M_X6_lastAt) 22 = .ok (.ireturn, 1) := by decide +kernel
def b_X6_lastAt_0 (h : HP) (v0 : Nat) (v1 : Int32) : Option (Int32) :=
  if v1 < 0 then some ((-1)) else (gI 6 4 h v0).bind fun x2 => if x2 ≤ v1 then some ((-1)) else (gR 6 2 h v0).bind fun x4 => (aI h x4 v1).bind fun x5 => some (x5)
def f_X6_lastAt (h : HP) (v0 : Nat) (v1 : Int32) : Option (Int32) := (kO 6 h v0).bind fun _ => b_X6_lastAt_0 h v0 v1
theorem w_X6_lastAt_0 {l : Launch} {X : SCR} {Q : PST} {bc bs : Nat} {res : Int32} {h : HP} (hQ : ∀ sz', Q (.inl (some (.int res))) h sz') {v0 : Nat} {v1 : Int32} {sz : Nat} (hf : b_X6_lastAt_0 h v0 v1  = some res) : SP l X M_X6_lastAt 0 [(0, .ref v0), (1, .int v1)] [] h sz bc bs Q := by
  rw [b_X6_lastAt_0] at hf
  refine sp_iload_n (pc := 0) dX6_lastAt_0 1 rfl ?_
  refine sp_if_lt (pc := 1) (tgt := 21) dX6_lastAt_1 (by decide) (fun c1 => ?_) (fun c1 => ?_)
  · rw [if_pos c1] at hf
    refine sp_iconst (pc := 21) (v := (-1)) dX6_lastAt_21 (by decide) ?_
    obtain rfl := Option.some.inj hf
    exact sp_ireturn (pc := 22) dX6_lastAt_22 rfl rfl (hQ _)
  · rw [if_neg c1] at hf
    refine sp_iload_n (pc := 4) dX6_lastAt_4 1 rfl ?_
    refine sp_aload_n (pc := 5) dX6_lastAt_5 0 rfl ?_
    obtain ⟨x2, ex2, hf⟩ := ob hf
    refine sp_gI (pc := 6) fl_RX6_30 dX6_lastAt_6 ex2 ?_
    refine sp_icmp_ge (pc := 9) (tgt := 21) dX6_lastAt_9 (by decide) (fun c3 => ?_) (fun c3 => ?_)
    · rw [if_pos c3] at hf
      refine sp_iconst (pc := 21) (v := (-1)) dX6_lastAt_21 (by decide) ?_
      obtain rfl := Option.some.inj hf
      exact sp_ireturn (pc := 22) dX6_lastAt_22 rfl rfl (hQ _)
    · rw [if_neg c3] at hf
      refine sp_aload_n (pc := 12) dX6_lastAt_12 0 rfl ?_
      obtain ⟨x4, ex4, hf⟩ := ob hf
      refine sp_gR (pc := 13) fl_RX6_24 dX6_lastAt_13 ex4 ?_
      refine sp_iload_n (pc := 16) dX6_lastAt_16 1 rfl ?_
      obtain ⟨x5, ex5, hf⟩ := ob hf
      refine sp_aI (pc := 17) dX6_lastAt_17 ex5 ?_
      refine sp_goto (pc := 18) (tgt := 22) dX6_lastAt_18 (by decide) ?_
      obtain rfl := Option.some.inj hf
      exact sp_ireturn (pc := 22) dX6_lastAt_22 rfl rfl (hQ _)

theorem o_X6_lastAt {h : HP} {v0 : Nat} {v1 : Int32} {res : Int32} (hf : f_X6_lastAt h v0 v1 = some res) : ∃ fs, h v0 = some (.inr (6, fs)) := by
  obtain ⟨u, eu, -⟩ := ob hf
  exact kO_spec eu

theorem m_X6_lastAt {l : Launch} {Q : PST} {h : HP} {v0 : Nat} {v1 : Int32} {sz : Nat} {res : Int32} (hQ : ∀ sz', Q (.inl (some (.int res))) h sz') (hf : f_X6_lastAt h v0 v1 = some res) : MM l M_X6_lastAt [.ref v0, .int v1] h sz Q := by
  obtain ⟨u, eu, hf⟩ := ob hf
  exact MM_of wok_X6_lastAt (by decide +kernel) (Nat.le_of_ble_eq_true rfl) ((w_X6_lastAt_0 hQ hf))

theorem dX2_addRow_0 : decode (mB M_X2_addRow) 0 = .ok (.iload_n 1, 1) := by decide +kernel
theorem dX2_addRow_1 : decode (mB M_X2_addRow) 1 = .ok (.bipush 64, 2) := by decide +kernel
theorem dX2_addRow_3 : decode (mB M_X2_addRow) 3 = .ok (.if_icmp .ge 31, 3) := by decide +kernel
theorem dX2_addRow_6 : decode (mB M_X2_addRow) 6 = .ok (.aload_n 0, 1) := by decide +kernel
theorem dX2_addRow_7 : decode (mB M_X2_addRow) 7 = .ok (.dup, 1) := by decide +kernel
theorem dX2_addRow_8 : decode (mB M_X2_addRow) 8 = .ok (.getfield 9, 3) := by decide +kernel
theorem dX2_addRow_11 : decode (mB M_X2_addRow) 11 = .ok (.ldc2_w 18, 3) := by decide +kernel
theorem dX2_addRow_14 : decode (mB M_X2_addRow) 14 = .ok (.iload_n 1, 1) := by decide +kernel
theorem dX2_addRow_15 : decode (mB M_X2_addRow) 15 = .ok (.lshl, 1) := by decide +kernel
theorem dX2_addRow_16 : decode (mB M_X2_addRow) 16 = .ok (.ldc2_w 18, 3) := by decide +kernel
theorem dX2_addRow_19 : decode (mB M_X2_addRow) 19 = .ok (.bipush 63, 2) := by decide +kernel
theorem dX2_addRow_21 : decode (mB M_X2_addRow) 21 = .ok (.iload_n 2, 1) := by decide +kernel
theorem dX2_addRow_22 : decode (mB M_X2_addRow) 22 = .ok (.bipush 63, 2) := by decide +kernel
theorem dX2_addRow_24 : decode (mB M_X2_addRow) 24 = .ok (.invokestatic 20, 3) := by decide +kernel
theorem dX2_addRow_27 : decode (mB M_X2_addRow) 27 = .ok (.isub, 1) := by decide +kernel
theorem dX2_addRow_28 : decode (mB M_X2_addRow) 28 = .ok (.lushr, 1) := by decide +kernel
theorem dX2_addRow_29 : decode (mB M_X2_addRow) 29 = .ok (.land, 1) := by decide +kernel
theorem dX2_addRow_30 : decode (mB M_X2_addRow) 30 = .ok (.lor, 1) := by decide +kernel
theorem dX2_addRow_31 : decode (mB M_X2_addRow) 31 = .ok (.putfield 9, 3) := by decide +kernel
theorem dX2_addRow_34 : decode (mB M_X2_addRow) 34 = .ok (.iload_n 2, 1) := by decide +kernel
theorem dX2_addRow_35 : decode (mB M_X2_addRow) 35 = .ok (.bipush 64, 2) := by decide +kernel
theorem dX2_addRow_37 : decode (mB M_X2_addRow) 37 = .ok (.if_icmp .lt 33, 3) := by decide +kernel
theorem dX2_addRow_40 : decode (mB M_X2_addRow) 40 = .ok (.aload_n 0, 1) := by decide +kernel
theorem dX2_addRow_41 : decode (mB M_X2_addRow) 41 = .ok (.dup, 1) := by decide +kernel
theorem dX2_addRow_42 : decode (mB M_X2_addRow) 42 = .ok (.getfield 15, 3) := by decide +kernel
theorem dX2_addRow_45 : decode (mB M_X2_addRow) 45 = .ok (.ldc2_w 18, 3) := by decide +kernel
theorem dX2_addRow_48 : decode (mB M_X2_addRow) 48 = .ok (.iload_n 1, 1) := by decide +kernel
theorem dX2_addRow_49 : decode (mB M_X2_addRow) 49 = .ok (.bipush 64, 2) := by decide +kernel
theorem dX2_addRow_51 : decode (mB M_X2_addRow) 51 = .ok (.isub, 1) := by decide +kernel
theorem dX2_addRow_52 : decode (mB M_X2_addRow) 52 = .ok (.iconst 0, 1) := by decide +kernel
theorem dX2_addRow_53 : decode (mB M_X2_addRow) 53 = .ok (.invokestatic 26, 3) := by decide +kernel
theorem dX2_addRow_56 : decode (mB M_X2_addRow) 56 = .ok (.lshl, 1) := by decide +kernel
theorem dX2_addRow_57 : decode (mB M_X2_addRow) 57 = .ok (.ldc2_w 18, 3) := by decide +kernel
theorem dX2_addRow_60 : decode (mB M_X2_addRow) 60 = .ok (.bipush 127, 2) := by decide +kernel
theorem dX2_addRow_62 : decode (mB M_X2_addRow) 62 = .ok (.iload_n 2, 1) := by decide +kernel
theorem dX2_addRow_63 : decode (mB M_X2_addRow) 63 = .ok (.isub, 1) := by decide +kernel
theorem dX2_addRow_64 : decode (mB M_X2_addRow) 64 = .ok (.lushr, 1) := by decide +kernel
theorem dX2_addRow_65 : decode (mB M_X2_addRow) 65 = .ok (.land, 1) := by decide +kernel
theorem dX2_addRow_66 : decode (mB M_X2_addRow) 66 = .ok (.lor, 1) := by decide +kernel
theorem dX2_addRow_67 : decode (mB M_X2_addRow) 67 = .ok (.putfield 15, 3) := by decide +kernel
theorem dX2_addRow_70 : decode (mB M_X2_addRow) 70 = .ok (.return_, 1) := by decide +kernel
def b_X2_addRow_34 (v0 : Nat) (v1 : Int32) (v2 : Int32) (h : HP) : Option (HP) :=
  if v2 < 64 then some h else (gL 2 1 h v0).bind fun x2 => (pL 2 1 h v0 (x2 ||| ((jlshl (-1) (jmax (v1 - 64) 0)) &&& (jlushr (-1) (127 - v2))))).bind fun h3 => some h3
def b_X2_addRow_0 (v0 : Nat) (v1 : Int32) (v2 : Int32) (h : HP) : Option (HP) :=
  if 64 ≤ v1 then b_X2_addRow_34 v0 v1 v2 h else (gL 2 0 h v0).bind fun x2 => (pL 2 0 h v0 (x2 ||| ((jlshl (-1) v1) &&& (jlushr (-1) (63 - (jmin v2 63)))))).bind fun h3 => b_X2_addRow_34 v0 v1 v2 h3
def f_X2_addRow (h : HP) (v0 : Nat) (v1 : Int32) (v2 : Int32) : Option (HP) := (kO 2 h v0).bind fun _ => b_X2_addRow_0 v0 v1 v2 h
theorem w_X2_addRow_34 {l : Launch} {X : SCR} {Q : PST} {bc bs : Nat} {res : HP} {h : HP} (hQ : ∀ sz', Q (.inl none) res sz') {v0 : Nat} {v1 : Int32} {v2 : Int32} {sz : Nat} (hf : b_X2_addRow_34 v0 v1 v2 h  = some res) : SP l X M_X2_addRow 34 [(0, .ref v0), (1, .int v1), (2, .int v2)] [] h sz bc bs Q := by
  rw [b_X2_addRow_34] at hf
  refine sp_iload_n (pc := 34) dX2_addRow_34 2 rfl ?_
  refine sp_bipush (pc := 35) (v := 64) dX2_addRow_35 (by decide) ?_
  refine sp_icmp_lt (pc := 37) (tgt := 70) dX2_addRow_37 (by decide) (fun c1 => ?_) (fun c1 => ?_)
  · rw [if_pos c1] at hf
    obtain rfl := Option.some.inj hf
    exact sp_return (pc := 70) dX2_addRow_70 rfl (hQ _)
  · rw [if_neg c1] at hf
    refine sp_aload_n (pc := 40) dX2_addRow_40 0 rfl ?_
    refine sp_dup (pc := 41) dX2_addRow_41 rfl ?_
    obtain ⟨x2, ex2, hf⟩ := ob hf
    refine sp_gL (pc := 42) fl_RX2_15 dX2_addRow_42 ex2 ?_
    refine sp_ldc2 (pc := 45) dX2_addRow_45 bk_401 ?_
    refine sp_iload_n (pc := 48) dX2_addRow_48 1 rfl ?_
    refine sp_bipush (pc := 49) (v := 64) dX2_addRow_49 (by decide) ?_
    refine sp_isub (pc := 51) dX2_addRow_51 ?_
    refine sp_iconst (pc := 52) (v := 0) dX2_addRow_52 (by decide) ?_
    refine sp_mmaxJ (pc := 53) bk_405 bk_45 bk_9 bk_46 dX2_addRow_53 (by decide) (Nat.le_of_ble_eq_true rfl) ?_
    refine sp_lshlJ (pc := 56) dX2_addRow_56 ?_
    refine sp_ldc2 (pc := 57) dX2_addRow_57 bk_401 ?_
    refine sp_bipush (pc := 60) (v := 127) dX2_addRow_60 (by decide) ?_
    refine sp_iload_n (pc := 62) dX2_addRow_62 2 rfl ?_
    refine sp_isub (pc := 63) dX2_addRow_63 ?_
    refine sp_lushrJ (pc := 64) dX2_addRow_64 ?_
    refine sp_land (pc := 65) dX2_addRow_65 ?_
    refine sp_lor (pc := 66) dX2_addRow_66 ?_
    obtain ⟨h3, eh3, hf⟩ := ob hf
    refine sp_pL (pc := 67) pf_RX2_15 dX2_addRow_67 eh3 (fun sz => ?_)
    obtain rfl := Option.some.inj hf
    exact sp_return (pc := 70) dX2_addRow_70 rfl (hQ _)

theorem w_X2_addRow_0 {l : Launch} {X : SCR} {Q : PST} {bc bs : Nat} {res : HP} {h : HP} (hQ : ∀ sz', Q (.inl none) res sz') {v0 : Nat} {v1 : Int32} {v2 : Int32} {sz : Nat} (hf : b_X2_addRow_0 v0 v1 v2 h  = some res) : SP l X M_X2_addRow 0 [(0, .ref v0), (1, .int v1), (2, .int v2)] [] h sz bc bs Q := by
  rw [b_X2_addRow_0] at hf
  refine sp_iload_n (pc := 0) dX2_addRow_0 1 rfl ?_
  refine sp_bipush (pc := 1) (v := 64) dX2_addRow_1 (by decide) ?_
  refine sp_icmp_ge (pc := 3) (tgt := 34) dX2_addRow_3 (by decide) (fun c1 => ?_) (fun c1 => ?_)
  · rw [if_pos c1] at hf
    exact (w_X2_addRow_34 hQ hf)
  · rw [if_neg c1] at hf
    refine sp_aload_n (pc := 6) dX2_addRow_6 0 rfl ?_
    refine sp_dup (pc := 7) dX2_addRow_7 rfl ?_
    obtain ⟨x2, ex2, hf⟩ := ob hf
    refine sp_gL (pc := 8) fl_RX2_9 dX2_addRow_8 ex2 ?_
    refine sp_ldc2 (pc := 11) dX2_addRow_11 bk_401 ?_
    refine sp_iload_n (pc := 14) dX2_addRow_14 1 rfl ?_
    refine sp_lshlJ (pc := 15) dX2_addRow_15 ?_
    refine sp_ldc2 (pc := 16) dX2_addRow_16 bk_401 ?_
    refine sp_bipush (pc := 19) (v := 63) dX2_addRow_19 (by decide) ?_
    refine sp_iload_n (pc := 21) dX2_addRow_21 2 rfl ?_
    refine sp_bipush (pc := 22) (v := 63) dX2_addRow_22 (by decide) ?_
    refine sp_mminJ (pc := 24) bk_402 bk_403 bk_9 bk_404 dX2_addRow_24 (by decide) (Nat.le_of_ble_eq_true rfl) ?_
    refine sp_isub (pc := 27) dX2_addRow_27 ?_
    refine sp_lushrJ (pc := 28) dX2_addRow_28 ?_
    refine sp_land (pc := 29) dX2_addRow_29 ?_
    refine sp_lor (pc := 30) dX2_addRow_30 ?_
    obtain ⟨h3, eh3, hf⟩ := ob hf
    refine sp_pL (pc := 31) pf_RX2_9 dX2_addRow_31 eh3 (fun sz => ?_)
    exact (w_X2_addRow_34 hQ hf)

theorem o_X2_addRow {h : HP} {v0 : Nat} {v1 : Int32} {v2 : Int32} {res : HP} (hf : f_X2_addRow h v0 v1 v2 = some res) : ∃ fs, h v0 = some (.inr (2, fs)) := by
  obtain ⟨u, eu, -⟩ := ob hf
  exact kO_spec eu

theorem m_X2_addRow {l : Launch} {Q : PST} {h : HP} {v0 : Nat} {v1 : Int32} {v2 : Int32} {sz : Nat} {res : HP} (hQ : ∀ sz', Q (.inl none) res sz') (hf : f_X2_addRow h v0 v1 v2 = some res) : MM l M_X2_addRow [.ref v0, .int v1, .int v2] h sz Q := by
  obtain ⟨u, eu, hf⟩ := ob hf
  exact MM_of wok_X2_addRow (by decide +kernel) (Nat.le_of_ble_eq_true rfl) ((w_X2_addRow_0 hQ hf))

theorem dX6_isEntry_0 : decode (mB M_X6_isEntry) 0 = .ok (.iload_n 1, 1) := by decide +kernel
theorem dX6_isEntry_1 : decode (mB M_X6_isEntry) 1 = .ok (.ifCond .lt 24, 3) := by decide +kernel
theorem dX6_isEntry_4 : decode (mB M_X6_isEntry) 4 = .ok (.iload_n 1, 1) := by decide +kernel
theorem dX6_isEntry_5 : decode (mB M_X6_isEntry) 5 = .ok (.aload_n 0, 1) := by decide +kernel
theorem dX6_isEntry_6 : decode (mB M_X6_isEntry) 6 = .ok (.getfield 30, 3) := by decide +kernel
theorem dX6_isEntry_9 : decode (mB M_X6_isEntry) 9 = .ok (.if_icmp .ge 16, 3) := by decide +kernel
theorem dX6_isEntry_12 : decode (mB M_X6_isEntry) 12 = .ok (.aload_n 0, 1) := by decide +kernel
theorem dX6_isEntry_13 : decode (mB M_X6_isEntry) 13 = .ok (.getfield 27, 3) := by decide +kernel
theorem dX6_isEntry_16 : decode (mB M_X6_isEntry) 16 = .ok (.iload_n 1, 1) := by decide +kernel
theorem dX6_isEntry_17 : decode (mB M_X6_isEntry) 17 = .ok (.iaload, 1) := by decide +kernel
theorem dX6_isEntry_18 : decode (mB M_X6_isEntry) 18 = .ok (.ifCond .le 7, 3) := by decide +kernel
theorem dX6_isEntry_21 : decode (mB M_X6_isEntry) 21 = .ok (.iconst 1, 1) := by decide +kernel
theorem dX6_isEntry_22 : decode (mB M_X6_isEntry) 22 = .ok (.goto 4, 3) := by decide +kernel
theorem dX6_isEntry_25 : decode (mB M_X6_isEntry) 25 = .ok (.iconst 0, 1) := by decide +kernel
theorem dX6_isEntry_26 : decode (mB M_X6_isEntry) 26 = .ok (.ireturn, 1) := by decide +kernel
def b_X6_isEntry_0 (h : HP) (v0 : Nat) (v1 : Int32) : Option (Int32) :=
  if v1 < 0 then some (0) else (gI 6 4 h v0).bind fun x2 => if x2 ≤ v1 then some (0) else (gR 6 3 h v0).bind fun x4 => (aI h x4 v1).bind fun x5 => if x5 ≤ 0 then some (0) else some (1)
def f_X6_isEntry (h : HP) (v0 : Nat) (v1 : Int32) : Option (Int32) := (kO 6 h v0).bind fun _ => b_X6_isEntry_0 h v0 v1
theorem w_X6_isEntry_0 {l : Launch} {X : SCR} {Q : PST} {bc bs : Nat} {res : Int32} {h : HP} (hQ : ∀ sz', Q (.inl (some (.int res))) h sz') {v0 : Nat} {v1 : Int32} {sz : Nat} (hf : b_X6_isEntry_0 h v0 v1  = some res) : SP l X M_X6_isEntry 0 [(0, .ref v0), (1, .int v1)] [] h sz bc bs Q := by
  rw [b_X6_isEntry_0] at hf
  refine sp_iload_n (pc := 0) dX6_isEntry_0 1 rfl ?_
  refine sp_if_lt (pc := 1) (tgt := 25) dX6_isEntry_1 (by decide) (fun c1 => ?_) (fun c1 => ?_)
  · rw [if_pos c1] at hf
    refine sp_iconst (pc := 25) (v := 0) dX6_isEntry_25 (by decide) ?_
    obtain rfl := Option.some.inj hf
    exact sp_ireturn (pc := 26) dX6_isEntry_26 rfl rfl (hQ _)
  · rw [if_neg c1] at hf
    refine sp_iload_n (pc := 4) dX6_isEntry_4 1 rfl ?_
    refine sp_aload_n (pc := 5) dX6_isEntry_5 0 rfl ?_
    obtain ⟨x2, ex2, hf⟩ := ob hf
    refine sp_gI (pc := 6) fl_RX6_30 dX6_isEntry_6 ex2 ?_
    refine sp_icmp_ge (pc := 9) (tgt := 25) dX6_isEntry_9 (by decide) (fun c3 => ?_) (fun c3 => ?_)
    · rw [if_pos c3] at hf
      refine sp_iconst (pc := 25) (v := 0) dX6_isEntry_25 (by decide) ?_
      obtain rfl := Option.some.inj hf
      exact sp_ireturn (pc := 26) dX6_isEntry_26 rfl rfl (hQ _)
    · rw [if_neg c3] at hf
      refine sp_aload_n (pc := 12) dX6_isEntry_12 0 rfl ?_
      obtain ⟨x4, ex4, hf⟩ := ob hf
      refine sp_gR (pc := 13) fl_RX6_27 dX6_isEntry_13 ex4 ?_
      refine sp_iload_n (pc := 16) dX6_isEntry_16 1 rfl ?_
      obtain ⟨x5, ex5, hf⟩ := ob hf
      refine sp_aI (pc := 17) dX6_isEntry_17 ex5 ?_
      refine sp_if_le (pc := 18) (tgt := 25) dX6_isEntry_18 (by decide) (fun c6 => ?_) (fun c6 => ?_)
      · rw [if_pos c6] at hf
        refine sp_iconst (pc := 25) (v := 0) dX6_isEntry_25 (by decide) ?_
        obtain rfl := Option.some.inj hf
        exact sp_ireturn (pc := 26) dX6_isEntry_26 rfl rfl (hQ _)
      · rw [if_neg c6] at hf
        refine sp_iconst (pc := 21) (v := 1) dX6_isEntry_21 (by decide) ?_
        refine sp_goto (pc := 22) (tgt := 26) dX6_isEntry_22 (by decide) ?_
        obtain rfl := Option.some.inj hf
        exact sp_ireturn (pc := 26) dX6_isEntry_26 rfl rfl (hQ _)

theorem o_X6_isEntry {h : HP} {v0 : Nat} {v1 : Int32} {res : Int32} (hf : f_X6_isEntry h v0 v1 = some res) : ∃ fs, h v0 = some (.inr (6, fs)) := by
  obtain ⟨u, eu, -⟩ := ob hf
  exact kO_spec eu

theorem m_X6_isEntry {l : Launch} {Q : PST} {h : HP} {v0 : Nat} {v1 : Int32} {sz : Nat} {res : Int32} (hQ : ∀ sz', Q (.inl (some (.int res))) h sz') (hf : f_X6_isEntry h v0 v1 = some res) : MM l M_X6_isEntry [.ref v0, .int v1] h sz Q := by
  obtain ⟨u, eu, hf⟩ := ob hf
  exact MM_of wok_X6_isEntry (by decide +kernel) (Nat.le_of_ble_eq_true rfl) ((w_X6_isEntry_0 hQ hf))

theorem dX2_removeAll_0 : decode (mB M_X2_removeAll) 0 = .ok (.aload_n 0, 1) := by decide +kernel
theorem dX2_removeAll_1 : decode (mB M_X2_removeAll) 1 = .ok (.aload_n 0, 1) := by decide +kernel
theorem dX2_removeAll_2 : decode (mB M_X2_removeAll) 2 = .ok (.getfield 9, 3) := by decide +kernel
theorem dX2_removeAll_5 : decode (mB M_X2_removeAll) 5 = .ok (.aload_n 1, 1) := by decide +kernel
theorem dX2_removeAll_6 : decode (mB M_X2_removeAll) 6 = .ok (.getfield 9, 3) := by decide +kernel
theorem dX2_removeAll_9 : decode (mB M_X2_removeAll) 9 = .ok (.ldc2_w 18, 3) := by decide +kernel
theorem dX2_removeAll_12 : decode (mB M_X2_removeAll) 12 = .ok (.lxor, 1) := by decide +kernel
theorem dX2_removeAll_13 : decode (mB M_X2_removeAll) 13 = .ok (.land, 1) := by decide +kernel
theorem dX2_removeAll_14 : decode (mB M_X2_removeAll) 14 = .ok (.putfield 9, 3) := by decide +kernel
theorem dX2_removeAll_17 : decode (mB M_X2_removeAll) 17 = .ok (.aload_n 0, 1) := by decide +kernel
theorem dX2_removeAll_18 : decode (mB M_X2_removeAll) 18 = .ok (.aload_n 0, 1) := by decide +kernel
theorem dX2_removeAll_19 : decode (mB M_X2_removeAll) 19 = .ok (.getfield 15, 3) := by decide +kernel
theorem dX2_removeAll_22 : decode (mB M_X2_removeAll) 22 = .ok (.aload_n 1, 1) := by decide +kernel
theorem dX2_removeAll_23 : decode (mB M_X2_removeAll) 23 = .ok (.getfield 15, 3) := by decide +kernel
theorem dX2_removeAll_26 : decode (mB M_X2_removeAll) 26 = .ok (.ldc2_w 18, 3) := by decide +kernel
theorem dX2_removeAll_29 : decode (mB M_X2_removeAll) 29 = .ok (.lxor, 1) := by decide +kernel
theorem dX2_removeAll_30 : decode (mB M_X2_removeAll) 30 = .ok (.land, 1) := by decide +kernel
theorem dX2_removeAll_31 : decode (mB M_X2_removeAll) 31 = .ok (.putfield 15, 3) := by decide +kernel
theorem dX2_removeAll_34 : decode (mB M_X2_removeAll) 34 = .ok (.return_, 1) := by decide +kernel
def b_X2_removeAll_0 (v0 : Nat) (v1 : Nat) (h : HP) : Option (HP) :=
  (gL 2 0 h v0).bind fun x1 => (gL 2 0 h v1).bind fun x2 => (pL 2 0 h v0 (x1 &&& (x2 ^^^ (-1)))).bind fun h3 => (gL 2 1 h3 v0).bind fun x4 => (gL 2 1 h3 v1).bind fun x5 => (pL 2 1 h3 v0 (x4 &&& (x5 ^^^ (-1)))).bind fun h6 => some h6
def f_X2_removeAll (h : HP) (v0 : Nat) (v1 : Nat) : Option (HP) := (kO 2 h v0).bind fun _ => b_X2_removeAll_0 v0 v1 h
theorem w_X2_removeAll_0 {l : Launch} {X : SCR} {Q : PST} {bc bs : Nat} {res : HP} {h : HP} (hQ : ∀ sz', Q (.inl none) res sz') {v0 : Nat} {v1 : Nat} {sz : Nat} (hf : b_X2_removeAll_0 v0 v1 h  = some res) : SP l X M_X2_removeAll 0 [(0, .ref v0), (1, .ref v1)] [] h sz bc bs Q := by
  rw [b_X2_removeAll_0] at hf
  refine sp_aload_n (pc := 0) dX2_removeAll_0 0 rfl ?_
  refine sp_aload_n (pc := 1) dX2_removeAll_1 0 rfl ?_
  obtain ⟨x1, ex1, hf⟩ := ob hf
  refine sp_gL (pc := 2) fl_RX2_9 dX2_removeAll_2 ex1 ?_
  refine sp_aload_n (pc := 5) dX2_removeAll_5 1 rfl ?_
  obtain ⟨x2, ex2, hf⟩ := ob hf
  refine sp_gL (pc := 6) fl_RX2_9 dX2_removeAll_6 ex2 ?_
  refine sp_ldc2 (pc := 9) dX2_removeAll_9 bk_401 ?_
  refine sp_lxor (pc := 12) dX2_removeAll_12 ?_
  refine sp_land (pc := 13) dX2_removeAll_13 ?_
  obtain ⟨h3, eh3, hf⟩ := ob hf
  refine sp_pL (pc := 14) pf_RX2_9 dX2_removeAll_14 eh3 (fun sz => ?_)
  refine sp_aload_n (pc := 17) dX2_removeAll_17 0 rfl ?_
  refine sp_aload_n (pc := 18) dX2_removeAll_18 0 rfl ?_
  obtain ⟨x4, ex4, hf⟩ := ob hf
  refine sp_gL (pc := 19) fl_RX2_15 dX2_removeAll_19 ex4 ?_
  refine sp_aload_n (pc := 22) dX2_removeAll_22 1 rfl ?_
  obtain ⟨x5, ex5, hf⟩ := ob hf
  refine sp_gL (pc := 23) fl_RX2_15 dX2_removeAll_23 ex5 ?_
  refine sp_ldc2 (pc := 26) dX2_removeAll_26 bk_401 ?_
  refine sp_lxor (pc := 29) dX2_removeAll_29 ?_
  refine sp_land (pc := 30) dX2_removeAll_30 ?_
  obtain ⟨h6, eh6, hf⟩ := ob hf
  refine sp_pL (pc := 31) pf_RX2_15 dX2_removeAll_31 eh6 (fun sz => ?_)
  obtain rfl := Option.some.inj hf
  exact sp_return (pc := 34) dX2_removeAll_34 rfl (hQ _)

theorem o_X2_removeAll {h : HP} {v0 : Nat} {v1 : Nat} {res : HP} (hf : f_X2_removeAll h v0 v1 = some res) : ∃ fs, h v0 = some (.inr (2, fs)) := by
  obtain ⟨u, eu, -⟩ := ob hf
  exact kO_spec eu

theorem m_X2_removeAll {l : Launch} {Q : PST} {h : HP} {v0 : Nat} {v1 : Nat} {sz : Nat} {res : HP} (hQ : ∀ sz', Q (.inl none) res sz') (hf : f_X2_removeAll h v0 v1 = some res) : MM l M_X2_removeAll [.ref v0, .ref v1] h sz Q := by
  obtain ⟨u, eu, hf⟩ := ob hf
  exact MM_of wok_X2_removeAll (by decide +kernel) (Nat.le_of_ble_eq_true rfl) ((w_X2_removeAll_0 hQ hf))

theorem dX0_dropHidden_0 : decode (mB M_X0_dropHidden) 0 = .ok (.aload_n 1, 1) := by decide +kernel
theorem dX0_dropHidden_1 : decode (mB M_X0_dropHidden) 1 = .ok (.getfield 57, 3) := by decide +kernel
theorem dX0_dropHidden_4 : decode (mB M_X0_dropHidden) 4 = .ok (.astore 4, 2) := by decide +kernel
theorem dX0_dropHidden_6 : decode (mB M_X0_dropHidden) 6 = .ok (.iconst (-1), 1) := by decide +kernel
theorem dX0_dropHidden_7 : decode (mB M_X0_dropHidden) 7 = .ok (.istore 5, 2) := by decide +kernel
theorem dX0_dropHidden_9 : decode (mB M_X0_dropHidden) 9 = .ok (.iload_n 3, 1) := by decide +kernel
theorem dX0_dropHidden_10 : decode (mB M_X0_dropHidden) 10 = .ok (.iconst 1, 1) := by decide +kernel
theorem dX0_dropHidden_11 : decode (mB M_X0_dropHidden) 11 = .ok (.isub, 1) := by decide +kernel
theorem dX0_dropHidden_12 : decode (mB M_X0_dropHidden) 12 = .ok (.istore 6, 2) := by decide +kernel
theorem dX0_dropHidden_14 : decode (mB M_X0_dropHidden) 14 = .ok (.iload 6, 2) := by decide +kernel
theorem dX0_dropHidden_16 : decode (mB M_X0_dropHidden) 16 = .ok (.iload_n 2, 1) := by decide +kernel
theorem dX0_dropHidden_17 : decode (mB M_X0_dropHidden) 17 = .ok (.if_icmp .lt 169, 3) := by decide +kernel
theorem dX0_dropHidden_20 : decode (mB M_X0_dropHidden) 20 = .ok (.aload_n 1, 1) := by decide +kernel
theorem dX0_dropHidden_21 : decode (mB M_X0_dropHidden) 21 = .ok (.aload 4, 2) := by decide +kernel
theorem dX0_dropHidden_23 : decode (mB M_X0_dropHidden) 23 = .ok (.iload 6, 2) := by decide +kernel
theorem dX0_dropHidden_25 : decode (mB M_X0_dropHidden) 25 = .ok (.invokevirtual 71, 3) := by decide +kernel
theorem dX0_dropHidden_28 : decode (mB M_X0_dropHidden) 28 = .ok (.invokevirtual 74, 3) := by decide +kernel
theorem dX0_dropHidden_31 : decode (mB M_X0_dropHidden) 31 = .ok (.iload 5, 2) := by decide +kernel
theorem dX0_dropHidden_33 : decode (mB M_X0_dropHidden) 33 = .ok (.if_icmp .eq 30, 3) := by decide +kernel
theorem dX0_dropHidden_36 : decode (mB M_X0_dropHidden) 36 = .ok (.aload_n 1, 1) := by decide +kernel
theorem dX0_dropHidden_37 : decode (mB M_X0_dropHidden) 37 = .ok (.aload 4, 2) := by decide +kernel
theorem dX0_dropHidden_39 : decode (mB M_X0_dropHidden) 39 = .ok (.iload 6, 2) := by decide +kernel
theorem dX0_dropHidden_41 : decode (mB M_X0_dropHidden) 41 = .ok (.invokevirtual 71, 3) := by decide +kernel
theorem dX0_dropHidden_44 : decode (mB M_X0_dropHidden) 44 = .ok (.invokevirtual 74, 3) := by decide +kernel
theorem dX0_dropHidden_47 : decode (mB M_X0_dropHidden) 47 = .ok (.istore 5, 2) := by decide +kernel
theorem dX0_dropHidden_49 : decode (mB M_X0_dropHidden) 49 = .ok (.aload_n 0, 1) := by decide +kernel
theorem dX0_dropHidden_50 : decode (mB M_X0_dropHidden) 50 = .ok (.getfield 27, 3) := by decide +kernel
theorem dX0_dropHidden_53 : decode (mB M_X0_dropHidden) 53 = .ok (.invokevirtual 77, 3) := by decide +kernel
theorem dX0_dropHidden_56 : decode (mB M_X0_dropHidden) 56 = .ok (.aload_n 0, 1) := by decide +kernel
theorem dX0_dropHidden_57 : decode (mB M_X0_dropHidden) 57 = .ok (.getfield 31, 3) := by decide +kernel
theorem dX0_dropHidden_60 : decode (mB M_X0_dropHidden) 60 = .ok (.invokevirtual 77, 3) := by decide +kernel
theorem dX0_dropHidden_63 : decode (mB M_X0_dropHidden) 63 = .ok (.aload_n 0, 1) := by decide +kernel
theorem dX0_dropHidden_64 : decode (mB M_X0_dropHidden) 64 = .ok (.getfield 22, 3) := by decide +kernel
theorem dX0_dropHidden_67 : decode (mB M_X0_dropHidden) 67 = .ok (.iload 6, 2) := by decide +kernel
theorem dX0_dropHidden_69 : decode (mB M_X0_dropHidden) 69 = .ok (.aaload, 1) := by decide +kernel
theorem dX0_dropHidden_70 : decode (mB M_X0_dropHidden) 70 = .ok (.invokevirtual 77, 3) := by decide +kernel
theorem dX0_dropHidden_73 : decode (mB M_X0_dropHidden) 73 = .ok (.aload_n 0, 1) := by decide +kernel
theorem dX0_dropHidden_74 : decode (mB M_X0_dropHidden) 74 = .ok (.getfield 22, 3) := by decide +kernel
theorem dX0_dropHidden_77 : decode (mB M_X0_dropHidden) 77 = .ok (.iload 6, 2) := by decide +kernel
theorem dX0_dropHidden_79 : decode (mB M_X0_dropHidden) 79 = .ok (.aaload, 1) := by decide +kernel
theorem dX0_dropHidden_80 : decode (mB M_X0_dropHidden) 80 = .ok (.aload 4, 2) := by decide +kernel
theorem dX0_dropHidden_82 : decode (mB M_X0_dropHidden) 82 = .ok (.iload 6, 2) := by decide +kernel
theorem dX0_dropHidden_84 : decode (mB M_X0_dropHidden) 84 = .ok (.invokevirtual 78, 3) := by decide +kernel
theorem dX0_dropHidden_87 : decode (mB M_X0_dropHidden) 87 = .ok (.aload 4, 2) := by decide +kernel
theorem dX0_dropHidden_89 : decode (mB M_X0_dropHidden) 89 = .ok (.iload 6, 2) := by decide +kernel
theorem dX0_dropHidden_91 : decode (mB M_X0_dropHidden) 91 = .ok (.invokevirtual 81, 3) := by decide +kernel
theorem dX0_dropHidden_94 : decode (mB M_X0_dropHidden) 94 = .ok (.invokevirtual 84, 3) := by decide +kernel
theorem dX0_dropHidden_97 : decode (mB M_X0_dropHidden) 97 = .ok (.aload 4, 2) := by decide +kernel
theorem dX0_dropHidden_99 : decode (mB M_X0_dropHidden) 99 = .ok (.iload 6, 2) := by decide +kernel
theorem dX0_dropHidden_101 : decode (mB M_X0_dropHidden) 101 = .ok (.invokevirtual 88, 3) := by decide +kernel
theorem dX0_dropHidden_104 : decode (mB M_X0_dropHidden) 104 = .ok (.ifCond .eq 20, 3) := by decide +kernel
theorem dX0_dropHidden_107 : decode (mB M_X0_dropHidden) 107 = .ok (.aload_n 0, 1) := by decide +kernel
theorem dX0_dropHidden_108 : decode (mB M_X0_dropHidden) 108 = .ok (.getfield 22, 3) := by decide +kernel
theorem dX0_dropHidden_111 : decode (mB M_X0_dropHidden) 111 = .ok (.iload 6, 2) := by decide +kernel
theorem dX0_dropHidden_113 : decode (mB M_X0_dropHidden) 113 = .ok (.aaload, 1) := by decide +kernel
theorem dX0_dropHidden_114 : decode (mB M_X0_dropHidden) 114 = .ok (.aload_n 0, 1) := by decide +kernel
theorem dX0_dropHidden_115 : decode (mB M_X0_dropHidden) 115 = .ok (.getfield 27, 3) := by decide +kernel
theorem dX0_dropHidden_118 : decode (mB M_X0_dropHidden) 118 = .ok (.invokevirtual 92, 3) := by decide +kernel
theorem dX0_dropHidden_121 : decode (mB M_X0_dropHidden) 121 = .ok (.goto 38, 3) := by decide +kernel
theorem dX0_dropHidden_124 : decode (mB M_X0_dropHidden) 124 = .ok (.aload_n 0, 1) := by decide +kernel
theorem dX0_dropHidden_125 : decode (mB M_X0_dropHidden) 125 = .ok (.getfield 22, 3) := by decide +kernel
theorem dX0_dropHidden_128 : decode (mB M_X0_dropHidden) 128 = .ok (.iload 6, 2) := by decide +kernel
theorem dX0_dropHidden_130 : decode (mB M_X0_dropHidden) 130 = .ok (.aaload, 1) := by decide +kernel
theorem dX0_dropHidden_131 : decode (mB M_X0_dropHidden) 131 = .ok (.aload_n 0, 1) := by decide +kernel
theorem dX0_dropHidden_132 : decode (mB M_X0_dropHidden) 132 = .ok (.getfield 31, 3) := by decide +kernel
theorem dX0_dropHidden_135 : decode (mB M_X0_dropHidden) 135 = .ok (.invokevirtual 92, 3) := by decide +kernel
theorem dX0_dropHidden_138 : decode (mB M_X0_dropHidden) 138 = .ok (.aload_n 0, 1) := by decide +kernel
theorem dX0_dropHidden_139 : decode (mB M_X0_dropHidden) 139 = .ok (.getfield 31, 3) := by decide +kernel
theorem dX0_dropHidden_142 : decode (mB M_X0_dropHidden) 142 = .ok (.aload 4, 2) := by decide +kernel
theorem dX0_dropHidden_144 : decode (mB M_X0_dropHidden) 144 = .ok (.iload 6, 2) := by decide +kernel
theorem dX0_dropHidden_146 : decode (mB M_X0_dropHidden) 146 = .ok (.invokevirtual 78, 3) := by decide +kernel
theorem dX0_dropHidden_149 : decode (mB M_X0_dropHidden) 149 = .ok (.aload 4, 2) := by decide +kernel
theorem dX0_dropHidden_151 : decode (mB M_X0_dropHidden) 151 = .ok (.iload 6, 2) := by decide +kernel
theorem dX0_dropHidden_153 : decode (mB M_X0_dropHidden) 153 = .ok (.invokevirtual 81, 3) := by decide +kernel
theorem dX0_dropHidden_156 : decode (mB M_X0_dropHidden) 156 = .ok (.invokevirtual 84, 3) := by decide +kernel
theorem dX0_dropHidden_159 : decode (mB M_X0_dropHidden) 159 = .ok (.aload_n 0, 1) := by decide +kernel
theorem dX0_dropHidden_160 : decode (mB M_X0_dropHidden) 160 = .ok (.getfield 27, 3) := by decide +kernel
theorem dX0_dropHidden_163 : decode (mB M_X0_dropHidden) 163 = .ok (.aload 4, 2) := by decide +kernel
theorem dX0_dropHidden_165 : decode (mB M_X0_dropHidden) 165 = .ok (.iload 6, 2) := by decide +kernel
theorem dX0_dropHidden_167 : decode (mB M_X0_dropHidden) 167 = .ok (.invokevirtual 78, 3) := by decide +kernel
theorem dX0_dropHidden_170 : decode (mB M_X0_dropHidden) 170 = .ok (.aload 4, 2) := by decide +kernel
theorem dX0_dropHidden_172 : decode (mB M_X0_dropHidden) 172 = .ok (.iload 6, 2) := by decide +kernel
theorem dX0_dropHidden_174 : decode (mB M_X0_dropHidden) 174 = .ok (.invokevirtual 81, 3) := by decide +kernel
theorem dX0_dropHidden_177 : decode (mB M_X0_dropHidden) 177 = .ok (.invokevirtual 84, 3) := by decide +kernel
theorem dX0_dropHidden_180 : decode (mB M_X0_dropHidden) 180 = .ok (.iinc 6 (-1), 3) := by decide +kernel
theorem dX0_dropHidden_183 : decode (mB M_X0_dropHidden) 183 = .ok (.goto (-169), 3) := by decide +kernel
theorem dX0_dropHidden_186 : decode (mB M_X0_dropHidden) 186 = .ok (.return_, 1) := by decide +kernel
def b_X0_dropHidden_159 (v0 : Nat) (v1 : Nat) (v2 : Int32) (k14 : HP → Nat → Int32 → Int32 → Option (HP)) (h : HP) (v4 : Nat) (v5 : Int32) (v6 : Int32) : Option (HP) :=
  (gR 0 2 h v0).bind fun x1 => (f_X6_firstAt h v4 v6).bind fun y2 => (f_X6_lastAt h v4 v6).bind fun y3 => (f_X2_addRow h x1 y2 y3).bind fun y4 => k14 y4 v4 v5 (v6 + (-1))
def b_X0_dropHidden_63 (v0 : Nat) (v1 : Nat) (v2 : Int32) (k14 : HP → Nat → Int32 → Int32 → Option (HP)) (h : HP) (v4 : Nat) (v5 : Int32) (v6 : Int32) : Option (HP) :=
  (gR 0 1 h v0).bind fun x1 => (aR 3 h x1 v6).bind fun x2 => (f_X2_empty h x2).bind fun y3 => (gR 0 1 y3 v0).bind fun x4 => (aR 3 y3 x4 v6).bind fun x5 => (f_X6_firstAt y3 v4 v6).bind fun y6 => (f_X6_lastAt y3 v4 v6).bind fun y7 => (f_X2_addRow y3 x5 y6 y7).bind fun y8 => (f_X6_isEntry y8 v4 v6).bind fun y9 => if y9 = 0 then (gR 0 1 y8 v0).bind fun x11 => (aR 3 y8 x11 v6).bind fun x12 => (gR 0 3 y8 v0).bind fun x13 => (f_X2_removeAll y8 x12 x13).bind fun y14 => (gR 0 3 y14 v0).bind fun x15 => (f_X6_firstAt y14 v4 v6).bind fun y16 => (f_X6_lastAt y14 v4 v6).bind fun y17 => (f_X2_addRow y14 x15 y16 y17).bind fun y18 => b_X0_dropHidden_159 v0 v1 v2 k14 y18 v4 v5 v6 else (gR 0 1 y8 v0).bind fun x19 => (aR 3 y8 x19 v6).bind fun x20 => (gR 0 2 y8 v0).bind fun x21 => (f_X2_removeAll y8 x20 x21).bind fun y22 => b_X0_dropHidden_159 v0 v1 v2 k14 y22 v4 v5 v6
def c_X0_dropHidden_14 (v0 : Nat) (v1 : Nat) (v2 : Int32) (k14 : HP → Nat → Int32 → Int32 → Option (HP)) (h : HP) (v4 : Nat) (v5 : Int32) (v6 : Int32) : Option (HP) :=
  if v6 < v2 then some h else (f_X6_numberAt h v4 v6).bind fun y2 => (f_X3_eyesBefore h v1 y2).bind fun y3 => if y3 = v5 then b_X0_dropHidden_63 v0 v1 v2 k14 h v4 v5 v6 else (f_X6_numberAt h v4 v6).bind fun y5 => (f_X3_eyesBefore h v1 y5).bind fun y6 => (gR 0 2 h v0).bind fun x7 => (f_X2_empty h x7).bind fun y8 => (gR 0 3 y8 v0).bind fun x9 => (f_X2_empty y8 x9).bind fun y10 => b_X0_dropHidden_63 v0 v1 v2 k14 y10 v4 y6 v6
def b_X0_dropHidden_14 (v0 : Nat) (v1 : Nat) (v2 : Int32) : Nat → HP → Nat → Int32 → Int32 → Option (HP)
  | 0, _, _, _, _ => none
  | n + 1, h, v4, v5, v6 => c_X0_dropHidden_14 v0 v1 v2 (b_X0_dropHidden_14 v0 v1 v2 n) h v4 v5 v6
def b_X0_dropHidden_0 (v0 : Nat) (v1 : Nat) (v2 : Int32) (v3 : Int32) (h : HP) : Option (HP) :=
  (gR 3 1 h v1).bind fun x1 => b_X0_dropHidden_14 v0 v1 v2 FU h x1 ((-1)) (v3 - 1)
def f_X0_dropHidden (h : HP) (v0 : Nat) (v1 : Nat) (v2 : Int32) (v3 : Int32) : Option (HP) := (kO 0 h v0).bind fun _ => b_X0_dropHidden_0 v0 v1 v2 v3 h
theorem w_X0_dropHidden_159 {l : Launch} {X : SCR} {Q : PST} {bc bs : Nat} {res : HP} {h : HP} (hQ : ∀ sz', Q (.inl none) res sz') {v0 : Nat} {v1 : Nat} {v2 : Int32} {k14 : HP → Nat → Int32 → Int32 → Option (HP)} (hk14 : ∀ (h : HP) (v4 : Nat) (v5 : Int32) (v6 : Int32) (sz : Nat), k14 h v4 v5 v6 = some res → SP l X M_X0_dropHidden 14 [(0, .ref v0), (1, .ref v1), (2, .int v2), (4, .ref v4), (5, .int v5), (6, .int v6)] [] h sz bc bs Q) {v4 : Nat} {v5 : Int32} {v6 : Int32} {sz : Nat} (hf : b_X0_dropHidden_159 v0 v1 v2 k14 h v4 v5 v6 = some res) : SP l X M_X0_dropHidden 159 [(0, .ref v0), (1, .ref v1), (2, .int v2), (4, .ref v4), (5, .int v5), (6, .int v6)] [] h sz bc bs Q := by
  rw [b_X0_dropHidden_159] at hf
  refine sp_aload_n (pc := 159) dX0_dropHidden_159 0 rfl ?_
  obtain ⟨x1, ex1, hf⟩ := ob hf
  refine sp_gR (pc := 160) fl_RX0_27 dX0_dropHidden_160 ex1 ?_
  refine sp_aload (pc := 163) dX0_dropHidden_163 3 rfl ?_
  refine sp_iload (pc := 165) dX0_dropHidden_165 5 rfl ?_
  obtain ⟨y2, ey2, hf⟩ := ob hf
  obtain ⟨fsy2, hoy2⟩ := o_X6_firstAt ey2
  refine sp_callVi (pc := 167) (z := M_X6_firstAt) (As := [.int v6]) (b := v4) (bc2 := bc) (bs2 := bs) (m_X6_firstAt (Q := _) (fun sz => ⟨y2, rfl, ?_⟩) ey2) rfl dX0_dropHidden_167 hoy2 rfl rfl ck_X0_dropHidden_78 (Nat.le_of_ble_eq_true rfl) rfl rfl rfl
  refine sp_aload (pc := 170) dX0_dropHidden_170 3 rfl ?_
  refine sp_iload (pc := 172) dX0_dropHidden_172 5 rfl ?_
  obtain ⟨y3, ey3, hf⟩ := ob hf
  obtain ⟨fsy3, hoy3⟩ := o_X6_lastAt ey3
  refine sp_callVi (pc := 174) (z := M_X6_lastAt) (As := [.int v6]) (b := v4) (bc2 := bc) (bs2 := bs) (m_X6_lastAt (Q := _) (fun sz => ⟨y3, rfl, ?_⟩) ey3) rfl dX0_dropHidden_174 hoy3 rfl rfl ck_X0_dropHidden_81 (Nat.le_of_ble_eq_true rfl) rfl rfl rfl
  obtain ⟨y4, ey4, hf⟩ := ob hf
  obtain ⟨fsy4, hoy4⟩ := o_X2_addRow ey4
  refine sp_callVv (pc := 177) (z := M_X2_addRow) (As := [.int y2, .int y3]) (b := x1) (bc2 := bc) (bs2 := bs) (m_X2_addRow (Q := _) (fun sz => ⟨(), rfl, ?_⟩) ey4) rfl dX0_dropHidden_177 hoy4 rfl rfl ck_X0_dropHidden_84 (Nat.le_of_ble_eq_true rfl) rfl rfl rfl
  refine sp_iinc (pc := 180) (v := v6 + (-1)) (lv' := [(6, .int (v6 + (-1))), (0, .ref v0), (1, .ref v1), (2, .int v2), (4, .ref v4), (5, .int v5)]) dX0_dropHidden_180 5 rfl rfl (by decide) rfl ?_
  refine sp_goto (pc := 183) (tgt := 14) dX0_dropHidden_183 (by decide) ?_
  exact sp_sub [1, 2, 3, 4, 5, 0] rfl (hk14 _ _ _ _ _ hf)

theorem w_X0_dropHidden_63 {l : Launch} {X : SCR} {Q : PST} {bc bs : Nat} {res : HP} {h : HP} (hQ : ∀ sz', Q (.inl none) res sz') {v0 : Nat} {v1 : Nat} {v2 : Int32} {k14 : HP → Nat → Int32 → Int32 → Option (HP)} (hk14 : ∀ (h : HP) (v4 : Nat) (v5 : Int32) (v6 : Int32) (sz : Nat), k14 h v4 v5 v6 = some res → SP l X M_X0_dropHidden 14 [(0, .ref v0), (1, .ref v1), (2, .int v2), (4, .ref v4), (5, .int v5), (6, .int v6)] [] h sz bc bs Q) {v4 : Nat} {v5 : Int32} {v6 : Int32} {sz : Nat} (hf : b_X0_dropHidden_63 v0 v1 v2 k14 h v4 v5 v6 = some res) : SP l X M_X0_dropHidden 63 [(0, .ref v0), (1, .ref v1), (2, .int v2), (4, .ref v4), (5, .int v5), (6, .int v6)] [] h sz bc bs Q := by
  rw [b_X0_dropHidden_63] at hf
  refine sp_aload_n (pc := 63) dX0_dropHidden_63 0 rfl ?_
  obtain ⟨x1, ex1, hf⟩ := ob hf
  refine sp_gR (pc := 64) fl_RX0_22 dX0_dropHidden_64 ex1 ?_
  refine sp_iload (pc := 67) dX0_dropHidden_67 5 rfl ?_
  obtain ⟨x2, ex2, hf⟩ := ob hf
  refine sp_aR3 (pc := 69) dX0_dropHidden_69 ex2 ?_
  obtain ⟨y3, ey3, hf⟩ := ob hf
  obtain ⟨fsy3, hoy3⟩ := o_X2_empty ey3
  refine sp_callVv (pc := 70) (z := M_X2_empty) (As := []) (b := x2) (bc2 := bc) (bs2 := bs) (m_X2_empty (Q := _) (fun sz => ⟨(), rfl, ?_⟩) ey3) rfl dX0_dropHidden_70 hoy3 rfl rfl ck_X0_dropHidden_77 (Nat.le_of_ble_eq_true rfl) rfl rfl rfl
  refine sp_aload_n (pc := 73) dX0_dropHidden_73 0 rfl ?_
  obtain ⟨x4, ex4, hf⟩ := ob hf
  refine sp_gR (pc := 74) fl_RX0_22 dX0_dropHidden_74 ex4 ?_
  refine sp_iload (pc := 77) dX0_dropHidden_77 5 rfl ?_
  obtain ⟨x5, ex5, hf⟩ := ob hf
  refine sp_aR3 (pc := 79) dX0_dropHidden_79 ex5 ?_
  refine sp_aload (pc := 80) dX0_dropHidden_80 3 rfl ?_
  refine sp_iload (pc := 82) dX0_dropHidden_82 5 rfl ?_
  obtain ⟨y6, ey6, hf⟩ := ob hf
  obtain ⟨fsy6, hoy6⟩ := o_X6_firstAt ey6
  refine sp_callVi (pc := 84) (z := M_X6_firstAt) (As := [.int v6]) (b := v4) (bc2 := bc) (bs2 := bs) (m_X6_firstAt (Q := _) (fun sz => ⟨y6, rfl, ?_⟩) ey6) rfl dX0_dropHidden_84 hoy6 rfl rfl ck_X0_dropHidden_78 (Nat.le_of_ble_eq_true rfl) rfl rfl rfl
  refine sp_aload (pc := 87) dX0_dropHidden_87 3 rfl ?_
  refine sp_iload (pc := 89) dX0_dropHidden_89 5 rfl ?_
  obtain ⟨y7, ey7, hf⟩ := ob hf
  obtain ⟨fsy7, hoy7⟩ := o_X6_lastAt ey7
  refine sp_callVi (pc := 91) (z := M_X6_lastAt) (As := [.int v6]) (b := v4) (bc2 := bc) (bs2 := bs) (m_X6_lastAt (Q := _) (fun sz => ⟨y7, rfl, ?_⟩) ey7) rfl dX0_dropHidden_91 hoy7 rfl rfl ck_X0_dropHidden_81 (Nat.le_of_ble_eq_true rfl) rfl rfl rfl
  obtain ⟨y8, ey8, hf⟩ := ob hf
  obtain ⟨fsy8, hoy8⟩ := o_X2_addRow ey8
  refine sp_callVv (pc := 94) (z := M_X2_addRow) (As := [.int y6, .int y7]) (b := x5) (bc2 := bc) (bs2 := bs) (m_X2_addRow (Q := _) (fun sz => ⟨(), rfl, ?_⟩) ey8) rfl dX0_dropHidden_94 hoy8 rfl rfl ck_X0_dropHidden_84 (Nat.le_of_ble_eq_true rfl) rfl rfl rfl
  refine sp_aload (pc := 97) dX0_dropHidden_97 3 rfl ?_
  refine sp_iload (pc := 99) dX0_dropHidden_99 5 rfl ?_
  obtain ⟨y9, ey9, hf⟩ := ob hf
  obtain ⟨fsy9, hoy9⟩ := o_X6_isEntry ey9
  refine sp_callVi (pc := 101) (z := M_X6_isEntry) (As := [.int v6]) (b := v4) (bc2 := bc) (bs2 := bs) (m_X6_isEntry (Q := _) (fun sz => ⟨y9, rfl, ?_⟩) ey9) rfl dX0_dropHidden_101 hoy9 rfl rfl ck_X0_dropHidden_88 (Nat.le_of_ble_eq_true rfl) rfl rfl rfl
  refine sp_if_eq (pc := 104) (tgt := 124) dX0_dropHidden_104 (by decide) (fun c10 => ?_) (fun c10 => ?_)
  · rw [if_pos c10] at hf
    refine sp_aload_n (pc := 124) dX0_dropHidden_124 0 rfl ?_
    obtain ⟨x11, ex11, hf⟩ := ob hf
    refine sp_gR (pc := 125) fl_RX0_22 dX0_dropHidden_125 ex11 ?_
    refine sp_iload (pc := 128) dX0_dropHidden_128 5 rfl ?_
    obtain ⟨x12, ex12, hf⟩ := ob hf
    refine sp_aR3 (pc := 130) dX0_dropHidden_130 ex12 ?_
    refine sp_aload_n (pc := 131) dX0_dropHidden_131 0 rfl ?_
    obtain ⟨x13, ex13, hf⟩ := ob hf
    refine sp_gR (pc := 132) fl_RX0_31 dX0_dropHidden_132 ex13 ?_
    obtain ⟨y14, ey14, hf⟩ := ob hf
    obtain ⟨fsy14, hoy14⟩ := o_X2_removeAll ey14
    refine sp_callVv (pc := 135) (z := M_X2_removeAll) (As := [.ref x13]) (b := x12) (bc2 := bc) (bs2 := bs) (m_X2_removeAll (Q := _) (fun sz => ⟨(), rfl, ?_⟩) ey14) rfl dX0_dropHidden_135 hoy14 rfl rfl ck_X0_dropHidden_92 (Nat.le_of_ble_eq_true rfl) rfl rfl rfl
    refine sp_aload_n (pc := 138) dX0_dropHidden_138 0 rfl ?_
    obtain ⟨x15, ex15, hf⟩ := ob hf
    refine sp_gR (pc := 139) fl_RX0_31 dX0_dropHidden_139 ex15 ?_
    refine sp_aload (pc := 142) dX0_dropHidden_142 3 rfl ?_
    refine sp_iload (pc := 144) dX0_dropHidden_144 5 rfl ?_
    obtain ⟨y16, ey16, hf⟩ := ob hf
    obtain ⟨fsy16, hoy16⟩ := o_X6_firstAt ey16
    refine sp_callVi (pc := 146) (z := M_X6_firstAt) (As := [.int v6]) (b := v4) (bc2 := bc) (bs2 := bs) (m_X6_firstAt (Q := _) (fun sz => ⟨y16, rfl, ?_⟩) ey16) rfl dX0_dropHidden_146 hoy16 rfl rfl ck_X0_dropHidden_78 (Nat.le_of_ble_eq_true rfl) rfl rfl rfl
    refine sp_aload (pc := 149) dX0_dropHidden_149 3 rfl ?_
    refine sp_iload (pc := 151) dX0_dropHidden_151 5 rfl ?_
    obtain ⟨y17, ey17, hf⟩ := ob hf
    obtain ⟨fsy17, hoy17⟩ := o_X6_lastAt ey17
    refine sp_callVi (pc := 153) (z := M_X6_lastAt) (As := [.int v6]) (b := v4) (bc2 := bc) (bs2 := bs) (m_X6_lastAt (Q := _) (fun sz => ⟨y17, rfl, ?_⟩) ey17) rfl dX0_dropHidden_153 hoy17 rfl rfl ck_X0_dropHidden_81 (Nat.le_of_ble_eq_true rfl) rfl rfl rfl
    obtain ⟨y18, ey18, hf⟩ := ob hf
    obtain ⟨fsy18, hoy18⟩ := o_X2_addRow ey18
    refine sp_callVv (pc := 156) (z := M_X2_addRow) (As := [.int y16, .int y17]) (b := x15) (bc2 := bc) (bs2 := bs) (m_X2_addRow (Q := _) (fun sz => ⟨(), rfl, ?_⟩) ey18) rfl dX0_dropHidden_156 hoy18 rfl rfl ck_X0_dropHidden_84 (Nat.le_of_ble_eq_true rfl) rfl rfl rfl
    exact (w_X0_dropHidden_159 hQ hk14 hf)
  · rw [if_neg c10] at hf
    refine sp_aload_n (pc := 107) dX0_dropHidden_107 0 rfl ?_
    obtain ⟨x19, ex19, hf⟩ := ob hf
    refine sp_gR (pc := 108) fl_RX0_22 dX0_dropHidden_108 ex19 ?_
    refine sp_iload (pc := 111) dX0_dropHidden_111 5 rfl ?_
    obtain ⟨x20, ex20, hf⟩ := ob hf
    refine sp_aR3 (pc := 113) dX0_dropHidden_113 ex20 ?_
    refine sp_aload_n (pc := 114) dX0_dropHidden_114 0 rfl ?_
    obtain ⟨x21, ex21, hf⟩ := ob hf
    refine sp_gR (pc := 115) fl_RX0_27 dX0_dropHidden_115 ex21 ?_
    obtain ⟨y22, ey22, hf⟩ := ob hf
    obtain ⟨fsy22, hoy22⟩ := o_X2_removeAll ey22
    refine sp_callVv (pc := 118) (z := M_X2_removeAll) (As := [.ref x21]) (b := x20) (bc2 := bc) (bs2 := bs) (m_X2_removeAll (Q := _) (fun sz => ⟨(), rfl, ?_⟩) ey22) rfl dX0_dropHidden_118 hoy22 rfl rfl ck_X0_dropHidden_92 (Nat.le_of_ble_eq_true rfl) rfl rfl rfl
    refine sp_goto (pc := 121) (tgt := 159) dX0_dropHidden_121 (by decide) ?_
    exact (w_X0_dropHidden_159 hQ hk14 hf)

theorem wc_X0_dropHidden_14 {l : Launch} {X : SCR} {Q : PST} {bc bs : Nat} {res : HP} (hQ : ∀ sz', Q (.inl none) res sz') {v0 : Nat} {v1 : Nat} {v2 : Int32} {k14 : HP → Nat → Int32 → Int32 → Option (HP)} (hk14 : ∀ (h : HP) (v4 : Nat) (v5 : Int32) (v6 : Int32) (sz : Nat), k14 h v4 v5 v6 = some res → SP l X M_X0_dropHidden 14 [(0, .ref v0), (1, .ref v1), (2, .int v2), (4, .ref v4), (5, .int v5), (6, .int v6)] [] h sz bc bs Q) {h : HP} {v4 : Nat} {v5 : Int32} {v6 : Int32} {sz : Nat} (hf : c_X0_dropHidden_14 v0 v1 v2 k14 h v4 v5 v6 = some res) : SP l X M_X0_dropHidden 14 [(0, .ref v0), (1, .ref v1), (2, .int v2), (4, .ref v4), (5, .int v5), (6, .int v6)] [] h sz bc bs Q := by
  rw [c_X0_dropHidden_14] at hf
  refine sp_iload (pc := 14) dX0_dropHidden_14 5 rfl ?_
  refine sp_iload_n (pc := 16) dX0_dropHidden_16 2 rfl ?_
  refine sp_icmp_lt (pc := 17) (tgt := 186) dX0_dropHidden_17 (by decide) (fun c1 => ?_) (fun c1 => ?_)
  · rw [if_pos c1] at hf
    obtain rfl := Option.some.inj hf
    exact sp_return (pc := 186) dX0_dropHidden_186 rfl (hQ _)
  · rw [if_neg c1] at hf
    refine sp_aload_n (pc := 20) dX0_dropHidden_20 1 rfl ?_
    refine sp_aload (pc := 21) dX0_dropHidden_21 3 rfl ?_
    refine sp_iload (pc := 23) dX0_dropHidden_23 5 rfl ?_
    obtain ⟨y2, ey2, hf⟩ := ob hf
    obtain ⟨fsy2, hoy2⟩ := o_X6_numberAt ey2
    refine sp_callVi (pc := 25) (z := M_X6_numberAt) (As := [.int v6]) (b := v4) (bc2 := bc) (bs2 := bs) (m_X6_numberAt (Q := _) (fun sz => ⟨y2, rfl, ?_⟩) ey2) rfl dX0_dropHidden_25 hoy2 rfl rfl ck_X0_dropHidden_71 (Nat.le_of_ble_eq_true rfl) rfl rfl rfl
    obtain ⟨y3, ey3, hf⟩ := ob hf
    obtain ⟨fsy3, hoy3⟩ := o_X3_eyesBefore ey3
    refine sp_callVi (pc := 28) (z := M_X3_eyesBefore) (As := [.int y2]) (b := v1) (bc2 := bc) (bs2 := bs) (m_X3_eyesBefore (Q := _) (fun sz => ⟨y3, rfl, ?_⟩) ey3) rfl dX0_dropHidden_28 hoy3 rfl rfl ck_X0_dropHidden_74 (Nat.le_of_ble_eq_true rfl) rfl rfl rfl
    refine sp_iload (pc := 31) dX0_dropHidden_31 4 rfl ?_
    refine sp_icmp_eq (pc := 33) (tgt := 63) dX0_dropHidden_33 (by decide) (fun c4 => ?_) (fun c4 => ?_)
    · rw [if_pos c4] at hf
      exact (w_X0_dropHidden_63 hQ hk14 hf)
    · rw [if_neg c4] at hf
      refine sp_aload_n (pc := 36) dX0_dropHidden_36 1 rfl ?_
      refine sp_aload (pc := 37) dX0_dropHidden_37 3 rfl ?_
      refine sp_iload (pc := 39) dX0_dropHidden_39 5 rfl ?_
      obtain ⟨y5, ey5, hf⟩ := ob hf
      obtain ⟨fsy5, hoy5⟩ := o_X6_numberAt ey5
      refine sp_callVi (pc := 41) (z := M_X6_numberAt) (As := [.int v6]) (b := v4) (bc2 := bc) (bs2 := bs) (m_X6_numberAt (Q := _) (fun sz => ⟨y5, rfl, ?_⟩) ey5) rfl dX0_dropHidden_41 hoy5 rfl rfl ck_X0_dropHidden_71 (Nat.le_of_ble_eq_true rfl) rfl rfl rfl
      obtain ⟨y6, ey6, hf⟩ := ob hf
      obtain ⟨fsy6, hoy6⟩ := o_X3_eyesBefore ey6
      refine sp_callVi (pc := 44) (z := M_X3_eyesBefore) (As := [.int y5]) (b := v1) (bc2 := bc) (bs2 := bs) (m_X3_eyesBefore (Q := _) (fun sz => ⟨y6, rfl, ?_⟩) ey6) rfl dX0_dropHidden_44 hoy6 rfl rfl ck_X0_dropHidden_74 (Nat.le_of_ble_eq_true rfl) rfl rfl rfl
      refine sp_istore (pc := 47) (lv' := [(5, .int y6), (0, .ref v0), (1, .ref v1), (2, .int v2), (4, .ref v4), (6, .int v6)]) dX0_dropHidden_47 (by decide) rfl ?_
      refine sp_aload_n (pc := 49) dX0_dropHidden_49 1 rfl ?_
      obtain ⟨x7, ex7, hf⟩ := ob hf
      refine sp_gR (pc := 50) fl_RX0_27 dX0_dropHidden_50 ex7 ?_
      obtain ⟨y8, ey8, hf⟩ := ob hf
      obtain ⟨fsy8, hoy8⟩ := o_X2_empty ey8
      refine sp_callVv (pc := 53) (z := M_X2_empty) (As := []) (b := x7) (bc2 := bc) (bs2 := bs) (m_X2_empty (Q := _) (fun sz => ⟨(), rfl, ?_⟩) ey8) rfl dX0_dropHidden_53 hoy8 rfl rfl ck_X0_dropHidden_77 (Nat.le_of_ble_eq_true rfl) rfl rfl rfl
      refine sp_aload_n (pc := 56) dX0_dropHidden_56 1 rfl ?_
      obtain ⟨x9, ex9, hf⟩ := ob hf
      refine sp_gR (pc := 57) fl_RX0_31 dX0_dropHidden_57 ex9 ?_
      obtain ⟨y10, ey10, hf⟩ := ob hf
      obtain ⟨fsy10, hoy10⟩ := o_X2_empty ey10
      refine sp_callVv (pc := 60) (z := M_X2_empty) (As := []) (b := x9) (bc2 := bc) (bs2 := bs) (m_X2_empty (Q := _) (fun sz => ⟨(), rfl, ?_⟩) ey10) rfl dX0_dropHidden_60 hoy10 rfl rfl ck_X0_dropHidden_77 (Nat.le_of_ble_eq_true rfl) rfl rfl rfl
      exact sp_sub [1, 2, 3, 4, 0, 5] rfl (w_X0_dropHidden_63 hQ hk14 hf)

theorem w_X0_dropHidden_14 {l : Launch} {X : SCR} {Q : PST} {bc bs : Nat} {res : HP} (hQ : ∀ sz', Q (.inl none) res sz') {v0 : Nat} {v1 : Nat} {v2 : Int32} : ∀ (n : Nat) {h : HP} {v4 : Nat} {v5 : Int32} {v6 : Int32} {sz : Nat}, b_X0_dropHidden_14 v0 v1 v2 n h v4 v5 v6 = some res → SP l X M_X0_dropHidden 14 [(0, .ref v0), (1, .ref v1), (2, .int v2), (4, .ref v4), (5, .int v5), (6, .int v6)] [] h sz bc bs Q := by
  intro n
  induction n with
  | zero =>
    intro h v4 v5 v6 sz hf
    rw [b_X0_dropHidden_14] at hf
    cases hf
  | succ n ih =>
    intro h v4 v5 v6 sz hf
    rw [b_X0_dropHidden_14] at hf
    exact wc_X0_dropHidden_14 hQ (fun h v4 v5 v6 sz hf => ih hf) hf

theorem w_X0_dropHidden_0 {l : Launch} {X : SCR} {Q : PST} {bc bs : Nat} {res : HP} {h : HP} (hQ : ∀ sz', Q (.inl none) res sz') {v0 : Nat} {v1 : Nat} {v2 : Int32} {v3 : Int32} {sz : Nat} (hf : b_X0_dropHidden_0 v0 v1 v2 v3 h  = some res) : SP l X M_X0_dropHidden 0 [(0, .ref v0), (1, .ref v1), (2, .int v2), (3, .int v3)] [] h sz bc bs Q := by
  rw [b_X0_dropHidden_0] at hf
  refine sp_aload_n (pc := 0) dX0_dropHidden_0 1 rfl ?_
  obtain ⟨x1, ex1, hf⟩ := ob hf
  refine sp_gR (pc := 1) fl_RX0_57 dX0_dropHidden_1 ex1 ?_
  refine sp_astore (pc := 4) (lv' := [(4, .ref x1), (0, .ref v0), (1, .ref v1), (2, .int v2), (3, .int v3)]) dX0_dropHidden_4 (by decide) rfl ?_
  refine sp_iconst (pc := 6) (v := (-1)) dX0_dropHidden_6 (by decide) ?_
  refine sp_istore (pc := 7) (lv' := [(5, .int (-1)), (4, .ref x1), (0, .ref v0), (1, .ref v1), (2, .int v2), (3, .int v3)]) dX0_dropHidden_7 (by decide) rfl ?_
  refine sp_iload_n (pc := 9) dX0_dropHidden_9 5 rfl ?_
  refine sp_iconst (pc := 10) (v := 1) dX0_dropHidden_10 (by decide) ?_
  refine sp_isub (pc := 11) dX0_dropHidden_11 ?_
  refine sp_istore (pc := 12) (lv' := [(6, .int (v3 - 1)), (5, .int (-1)), (4, .ref x1), (0, .ref v0), (1, .ref v1), (2, .int v2), (3, .int v3)]) dX0_dropHidden_12 (by decide) rfl ?_
  exact sp_sub [3, 4, 5, 2, 1, 0] rfl (w_X0_dropHidden_14 hQ FU hf)

theorem o_X0_dropHidden {h : HP} {v0 : Nat} {v1 : Nat} {v2 : Int32} {v3 : Int32} {res : HP} (hf : f_X0_dropHidden h v0 v1 v2 v3 = some res) : ∃ fs, h v0 = some (.inr (0, fs)) := by
  obtain ⟨u, eu, -⟩ := ob hf
  exact kO_spec eu

theorem m_X0_dropHidden {l : Launch} {Q : PST} {h : HP} {v0 : Nat} {v1 : Nat} {v2 : Int32} {v3 : Int32} {sz : Nat} {res : HP} (hQ : ∀ sz', Q (.inl none) res sz') (hf : f_X0_dropHidden h v0 v1 v2 v3 = some res) : MM l M_X0_dropHidden [.ref v0, .ref v1, .int v2, .int v3] h sz Q := by
  obtain ⟨u, eu, hf⟩ := ob hf
  exact MM_of wok_X0_dropHidden (by decide +kernel) (Nat.le_of_ble_eq_true rfl) ((w_X0_dropHidden_0 hQ hf))

theorem dX3_runs_0 : decode (mB M_X3_runs) 0 = .ok (.aload_n 0, 1) := by decide +kernel
theorem dX3_runs_1 : decode (mB M_X3_runs) 1 = .ok (.getfield 34, 3) := by decide +kernel
theorem dX3_runs_4 : decode (mB M_X3_runs) 4 = .ok (.ireturn, 1) := by decide +kernel
def b_X3_runs_0 (h : HP) (v0 : Nat) : Option (Int32) :=
  (gI 3 4 h v0).bind fun x1 => some (x1)
def f_X3_runs (h : HP) (v0 : Nat) : Option (Int32) := (kO 3 h v0).bind fun _ => b_X3_runs_0 h v0
theorem w_X3_runs_0 {l : Launch} {X : SCR} {Q : PST} {bc bs : Nat} {res : Int32} {h : HP} (hQ : ∀ sz', Q (.inl (some (.int res))) h sz') {v0 : Nat} {sz : Nat} (hf : b_X3_runs_0 h v0  = some res) : SP l X M_X3_runs 0 [(0, .ref v0)] [] h sz bc bs Q := by
  rw [b_X3_runs_0] at hf
  refine sp_aload_n (pc := 0) dX3_runs_0 0 rfl ?_
  obtain ⟨x1, ex1, hf⟩ := ob hf
  refine sp_gI (pc := 1) fl_RX3_34 dX3_runs_1 ex1 ?_
  obtain rfl := Option.some.inj hf
  exact sp_ireturn (pc := 4) dX3_runs_4 rfl rfl (hQ _)

theorem o_X3_runs {h : HP} {v0 : Nat} {res : Int32} (hf : f_X3_runs h v0 = some res) : ∃ fs, h v0 = some (.inr (3, fs)) := by
  obtain ⟨u, eu, -⟩ := ob hf
  exact kO_spec eu

theorem m_X3_runs {l : Launch} {Q : PST} {h : HP} {v0 : Nat} {sz : Nat} {res : Int32} (hQ : ∀ sz', Q (.inl (some (.int res))) h sz') (hf : f_X3_runs h v0 = some res) : MM l M_X3_runs [.ref v0] h sz Q := by
  obtain ⟨u, eu, hf⟩ := ob hf
  exact MM_of wok_X3_runs (by decide +kernel) (Nat.le_of_ble_eq_true rfl) ((w_X3_runs_0 hQ hf))

theorem dX2_addAll_0 : decode (mB M_X2_addAll) 0 = .ok (.aload_n 0, 1) := by decide +kernel
theorem dX2_addAll_1 : decode (mB M_X2_addAll) 1 = .ok (.dup, 1) := by decide +kernel
theorem dX2_addAll_2 : decode (mB M_X2_addAll) 2 = .ok (.getfield 9, 3) := by decide +kernel
theorem dX2_addAll_5 : decode (mB M_X2_addAll) 5 = .ok (.aload_n 1, 1) := by decide +kernel
theorem dX2_addAll_6 : decode (mB M_X2_addAll) 6 = .ok (.getfield 9, 3) := by decide +kernel
theorem dX2_addAll_9 : decode (mB M_X2_addAll) 9 = .ok (.lor, 1) := by decide +kernel
theorem dX2_addAll_10 : decode (mB M_X2_addAll) 10 = .ok (.putfield 9, 3) := by decide +kernel
theorem dX2_addAll_13 : decode (mB M_X2_addAll) 13 = .ok (.aload_n 0, 1) := by decide +kernel
theorem dX2_addAll_14 : decode (mB M_X2_addAll) 14 = .ok (.dup, 1) := by decide +kernel
theorem dX2_addAll_15 : decode (mB M_X2_addAll) 15 = .ok (.getfield 15, 3) := by decide +kernel
theorem dX2_addAll_18 : decode (mB M_X2_addAll) 18 = .ok (.aload_n 1, 1) := by decide +kernel
theorem dX2_addAll_19 : decode (mB M_X2_addAll) 19 = .ok (.getfield 15, 3) := by decide +kernel
theorem dX2_addAll_22 : decode (mB M_X2_addAll) 22 = .ok (.lor, 1) := by decide +kernel
theorem dX2_addAll_23 : decode (mB M_X2_addAll) 23 = .ok (.putfield 15, 3) := by decide +kernel
theorem dX2_addAll_26 : decode (mB M_X2_addAll) 26 = .ok (.return_, 1) := by decide +kernel
def b_X2_addAll_0 (v0 : Nat) (v1 : Nat) (h : HP) : Option (HP) :=
  (gL 2 0 h v0).bind fun x1 => (gL 2 0 h v1).bind fun x2 => (pL 2 0 h v0 (x1 ||| x2)).bind fun h3 => (gL 2 1 h3 v0).bind fun x4 => (gL 2 1 h3 v1).bind fun x5 => (pL 2 1 h3 v0 (x4 ||| x5)).bind fun h6 => some h6
def f_X2_addAll (h : HP) (v0 : Nat) (v1 : Nat) : Option (HP) := (kO 2 h v0).bind fun _ => b_X2_addAll_0 v0 v1 h
theorem w_X2_addAll_0 {l : Launch} {X : SCR} {Q : PST} {bc bs : Nat} {res : HP} {h : HP} (hQ : ∀ sz', Q (.inl none) res sz') {v0 : Nat} {v1 : Nat} {sz : Nat} (hf : b_X2_addAll_0 v0 v1 h  = some res) : SP l X M_X2_addAll 0 [(0, .ref v0), (1, .ref v1)] [] h sz bc bs Q := by
  rw [b_X2_addAll_0] at hf
  refine sp_aload_n (pc := 0) dX2_addAll_0 0 rfl ?_
  refine sp_dup (pc := 1) dX2_addAll_1 rfl ?_
  obtain ⟨x1, ex1, hf⟩ := ob hf
  refine sp_gL (pc := 2) fl_RX2_9 dX2_addAll_2 ex1 ?_
  refine sp_aload_n (pc := 5) dX2_addAll_5 1 rfl ?_
  obtain ⟨x2, ex2, hf⟩ := ob hf
  refine sp_gL (pc := 6) fl_RX2_9 dX2_addAll_6 ex2 ?_
  refine sp_lor (pc := 9) dX2_addAll_9 ?_
  obtain ⟨h3, eh3, hf⟩ := ob hf
  refine sp_pL (pc := 10) pf_RX2_9 dX2_addAll_10 eh3 (fun sz => ?_)
  refine sp_aload_n (pc := 13) dX2_addAll_13 0 rfl ?_
  refine sp_dup (pc := 14) dX2_addAll_14 rfl ?_
  obtain ⟨x4, ex4, hf⟩ := ob hf
  refine sp_gL (pc := 15) fl_RX2_15 dX2_addAll_15 ex4 ?_
  refine sp_aload_n (pc := 18) dX2_addAll_18 1 rfl ?_
  obtain ⟨x5, ex5, hf⟩ := ob hf
  refine sp_gL (pc := 19) fl_RX2_15 dX2_addAll_19 ex5 ?_
  refine sp_lor (pc := 22) dX2_addAll_22 ?_
  obtain ⟨h6, eh6, hf⟩ := ob hf
  refine sp_pL (pc := 23) pf_RX2_15 dX2_addAll_23 eh6 (fun sz => ?_)
  obtain rfl := Option.some.inj hf
  exact sp_return (pc := 26) dX2_addAll_26 rfl (hQ _)

theorem o_X2_addAll {h : HP} {v0 : Nat} {v1 : Nat} {res : HP} (hf : f_X2_addAll h v0 v1 = some res) : ∃ fs, h v0 = some (.inr (2, fs)) := by
  obtain ⟨u, eu, -⟩ := ob hf
  exact kO_spec eu

theorem m_X2_addAll {l : Launch} {Q : PST} {h : HP} {v0 : Nat} {v1 : Nat} {sz : Nat} {res : HP} (hQ : ∀ sz', Q (.inl none) res sz') (hf : f_X2_addAll h v0 v1 = some res) : MM l M_X2_addAll [.ref v0, .ref v1] h sz Q := by
  obtain ⟨u, eu, hf⟩ := ob hf
  exact MM_of wok_X2_addAll (by decide +kernel) (Nat.le_of_ble_eq_true rfl) ((w_X2_addAll_0 hQ hf))

theorem dX2_keepOnly_0 : decode (mB M_X2_keepOnly) 0 = .ok (.aload_n 0, 1) := by decide +kernel
theorem dX2_keepOnly_1 : decode (mB M_X2_keepOnly) 1 = .ok (.dup, 1) := by decide +kernel
theorem dX2_keepOnly_2 : decode (mB M_X2_keepOnly) 2 = .ok (.getfield 9, 3) := by decide +kernel
theorem dX2_keepOnly_5 : decode (mB M_X2_keepOnly) 5 = .ok (.aload_n 1, 1) := by decide +kernel
theorem dX2_keepOnly_6 : decode (mB M_X2_keepOnly) 6 = .ok (.getfield 9, 3) := by decide +kernel
theorem dX2_keepOnly_9 : decode (mB M_X2_keepOnly) 9 = .ok (.land, 1) := by decide +kernel
theorem dX2_keepOnly_10 : decode (mB M_X2_keepOnly) 10 = .ok (.putfield 9, 3) := by decide +kernel
theorem dX2_keepOnly_13 : decode (mB M_X2_keepOnly) 13 = .ok (.aload_n 0, 1) := by decide +kernel
theorem dX2_keepOnly_14 : decode (mB M_X2_keepOnly) 14 = .ok (.dup, 1) := by decide +kernel
theorem dX2_keepOnly_15 : decode (mB M_X2_keepOnly) 15 = .ok (.getfield 15, 3) := by decide +kernel
theorem dX2_keepOnly_18 : decode (mB M_X2_keepOnly) 18 = .ok (.aload_n 1, 1) := by decide +kernel
theorem dX2_keepOnly_19 : decode (mB M_X2_keepOnly) 19 = .ok (.getfield 15, 3) := by decide +kernel
theorem dX2_keepOnly_22 : decode (mB M_X2_keepOnly) 22 = .ok (.land, 1) := by decide +kernel
theorem dX2_keepOnly_23 : decode (mB M_X2_keepOnly) 23 = .ok (.putfield 15, 3) := by decide +kernel
theorem dX2_keepOnly_26 : decode (mB M_X2_keepOnly) 26 = .ok (.return_, 1) := by decide +kernel
def b_X2_keepOnly_0 (v0 : Nat) (v1 : Nat) (h : HP) : Option (HP) :=
  (gL 2 0 h v0).bind fun x1 => (gL 2 0 h v1).bind fun x2 => (pL 2 0 h v0 (x1 &&& x2)).bind fun h3 => (gL 2 1 h3 v0).bind fun x4 => (gL 2 1 h3 v1).bind fun x5 => (pL 2 1 h3 v0 (x4 &&& x5)).bind fun h6 => some h6
def f_X2_keepOnly (h : HP) (v0 : Nat) (v1 : Nat) : Option (HP) := (kO 2 h v0).bind fun _ => b_X2_keepOnly_0 v0 v1 h
theorem w_X2_keepOnly_0 {l : Launch} {X : SCR} {Q : PST} {bc bs : Nat} {res : HP} {h : HP} (hQ : ∀ sz', Q (.inl none) res sz') {v0 : Nat} {v1 : Nat} {sz : Nat} (hf : b_X2_keepOnly_0 v0 v1 h  = some res) : SP l X M_X2_keepOnly 0 [(0, .ref v0), (1, .ref v1)] [] h sz bc bs Q := by
  rw [b_X2_keepOnly_0] at hf
  refine sp_aload_n (pc := 0) dX2_keepOnly_0 0 rfl ?_
  refine sp_dup (pc := 1) dX2_keepOnly_1 rfl ?_
  obtain ⟨x1, ex1, hf⟩ := ob hf
  refine sp_gL (pc := 2) fl_RX2_9 dX2_keepOnly_2 ex1 ?_
  refine sp_aload_n (pc := 5) dX2_keepOnly_5 1 rfl ?_
  obtain ⟨x2, ex2, hf⟩ := ob hf
  refine sp_gL (pc := 6) fl_RX2_9 dX2_keepOnly_6 ex2 ?_
  refine sp_land (pc := 9) dX2_keepOnly_9 ?_
  obtain ⟨h3, eh3, hf⟩ := ob hf
  refine sp_pL (pc := 10) pf_RX2_9 dX2_keepOnly_10 eh3 (fun sz => ?_)
  refine sp_aload_n (pc := 13) dX2_keepOnly_13 0 rfl ?_
  refine sp_dup (pc := 14) dX2_keepOnly_14 rfl ?_
  obtain ⟨x4, ex4, hf⟩ := ob hf
  refine sp_gL (pc := 15) fl_RX2_15 dX2_keepOnly_15 ex4 ?_
  refine sp_aload_n (pc := 18) dX2_keepOnly_18 1 rfl ?_
  obtain ⟨x5, ex5, hf⟩ := ob hf
  refine sp_gL (pc := 19) fl_RX2_15 dX2_keepOnly_19 ex5 ?_
  refine sp_land (pc := 22) dX2_keepOnly_22 ?_
  obtain ⟨h6, eh6, hf⟩ := ob hf
  refine sp_pL (pc := 23) pf_RX2_15 dX2_keepOnly_23 eh6 (fun sz => ?_)
  obtain rfl := Option.some.inj hf
  exact sp_return (pc := 26) dX2_keepOnly_26 rfl (hQ _)

theorem o_X2_keepOnly {h : HP} {v0 : Nat} {v1 : Nat} {res : HP} (hf : f_X2_keepOnly h v0 v1 = some res) : ∃ fs, h v0 = some (.inr (2, fs)) := by
  obtain ⟨u, eu, -⟩ := ob hf
  exact kO_spec eu

theorem m_X2_keepOnly {l : Launch} {Q : PST} {h : HP} {v0 : Nat} {v1 : Nat} {sz : Nat} {res : HP} (hQ : ∀ sz', Q (.inl none) res sz') (hf : f_X2_keepOnly h v0 v1 = some res) : MM l M_X2_keepOnly [.ref v0, .ref v1] h sz Q := by
  obtain ⟨u, eu, hf⟩ := ob hf
  exact MM_of wok_X2_keepOnly (by decide +kernel) (Nat.le_of_ble_eq_true rfl) ((w_X2_keepOnly_0 hQ hf))

theorem dX0_dropNeedless_0 : decode (mB M_X0_dropNeedless) 0 = .ok (.aload_n 0, 1) := by decide +kernel
theorem dX0_dropNeedless_1 : decode (mB M_X0_dropNeedless) 1 = .ok (.getfield 34, 3) := by decide +kernel
theorem dX0_dropNeedless_4 : decode (mB M_X0_dropNeedless) 4 = .ok (.invokevirtual 77, 3) := by decide +kernel
theorem dX0_dropNeedless_7 : decode (mB M_X0_dropNeedless) 7 = .ok (.iload_n 2, 1) := by decide +kernel
theorem dX0_dropNeedless_8 : decode (mB M_X0_dropNeedless) 8 = .ok (.istore 4, 2) := by decide +kernel
theorem dX0_dropNeedless_10 : decode (mB M_X0_dropNeedless) 10 = .ok (.iload 4, 2) := by decide +kernel
theorem dX0_dropNeedless_12 : decode (mB M_X0_dropNeedless) 12 = .ok (.iload_n 3, 1) := by decide +kernel
theorem dX0_dropNeedless_13 : decode (mB M_X0_dropNeedless) 13 = .ok (.if_icmp .ge 49, 3) := by decide +kernel
theorem dX0_dropNeedless_16 : decode (mB M_X0_dropNeedless) 16 = .ok (.aload_n 1, 1) := by decide +kernel
theorem dX0_dropNeedless_17 : decode (mB M_X0_dropNeedless) 17 = .ok (.iload 4, 2) := by decide +kernel
theorem dX0_dropNeedless_19 : decode (mB M_X0_dropNeedless) 19 = .ok (.invokevirtual 88, 3) := by decide +kernel
theorem dX0_dropNeedless_22 : decode (mB M_X0_dropNeedless) 22 = .ok (.ifCond .eq 20, 3) := by decide +kernel
theorem dX0_dropNeedless_25 : decode (mB M_X0_dropNeedless) 25 = .ok (.aload_n 0, 1) := by decide +kernel
theorem dX0_dropNeedless_26 : decode (mB M_X0_dropNeedless) 26 = .ok (.getfield 34, 3) := by decide +kernel
theorem dX0_dropNeedless_29 : decode (mB M_X0_dropNeedless) 29 = .ok (.aload_n 0, 1) := by decide +kernel
theorem dX0_dropNeedless_30 : decode (mB M_X0_dropNeedless) 30 = .ok (.getfield 22, 3) := by decide +kernel
theorem dX0_dropNeedless_33 : decode (mB M_X0_dropNeedless) 33 = .ok (.iload 4, 2) := by decide +kernel
theorem dX0_dropNeedless_35 : decode (mB M_X0_dropNeedless) 35 = .ok (.aaload, 1) := by decide +kernel
theorem dX0_dropNeedless_36 : decode (mB M_X0_dropNeedless) 36 = .ok (.invokevirtual 96, 3) := by decide +kernel
theorem dX0_dropNeedless_39 : decode (mB M_X0_dropNeedless) 39 = .ok (.goto 17, 3) := by decide +kernel
theorem dX0_dropNeedless_42 : decode (mB M_X0_dropNeedless) 42 = .ok (.aload_n 0, 1) := by decide +kernel
theorem dX0_dropNeedless_43 : decode (mB M_X0_dropNeedless) 43 = .ok (.getfield 22, 3) := by decide +kernel
theorem dX0_dropNeedless_46 : decode (mB M_X0_dropNeedless) 46 = .ok (.iload 4, 2) := by decide +kernel
theorem dX0_dropNeedless_48 : decode (mB M_X0_dropNeedless) 48 = .ok (.aaload, 1) := by decide +kernel
theorem dX0_dropNeedless_49 : decode (mB M_X0_dropNeedless) 49 = .ok (.aload_n 0, 1) := by decide +kernel
theorem dX0_dropNeedless_50 : decode (mB M_X0_dropNeedless) 50 = .ok (.getfield 34, 3) := by decide +kernel
theorem dX0_dropNeedless_53 : decode (mB M_X0_dropNeedless) 53 = .ok (.invokevirtual 99, 3) := by decide +kernel
theorem dX0_dropNeedless_56 : decode (mB M_X0_dropNeedless) 56 = .ok (.iinc 4 1, 3) := by decide +kernel
theorem dX0_dropNeedless_59 : decode (mB M_X0_dropNeedless) 59 = .ok (.goto (-49), 3) := by decide +kernel
theorem dX0_dropNeedless_62 : decode (mB M_X0_dropNeedless) 62 = .ok (.return_, 1) := by decide +kernel
def c_X0_dropNeedless_10 (v0 : Nat) (v1 : Nat) (v3 : Int32) (k10 : HP → Int32 → Option (HP)) (h : HP) (v4 : Int32) : Option (HP) :=
  if v3 ≤ v4 then some h else (f_X6_isEntry h v1 v4).bind fun y2 => if y2 = 0 then (gR 0 1 h v0).bind fun x4 => (aR 3 h x4 v4).bind fun x5 => (gR 0 4 h v0).bind fun x6 => (f_X2_keepOnly h x5 x6).bind fun y7 => k10 y7 (v4 + 1) else (gR 0 4 h v0).bind fun x8 => (gR 0 1 h v0).bind fun x9 => (aR 3 h x9 v4).bind fun x10 => (f_X2_addAll h x8 x10).bind fun y11 => k10 y11 (v4 + 1)
def b_X0_dropNeedless_10 (v0 : Nat) (v1 : Nat) (v3 : Int32) : Nat → HP → Int32 → Option (HP)
  | 0, _, _ => none
  | n + 1, h, v4 => c_X0_dropNeedless_10 v0 v1 v3 (b_X0_dropNeedless_10 v0 v1 v3 n) h v4
def b_X0_dropNeedless_0 (v0 : Nat) (v1 : Nat) (v2 : Int32) (v3 : Int32) (h : HP) : Option (HP) :=
  (gR 0 4 h v0).bind fun x1 => (f_X2_empty h x1).bind fun y2 => b_X0_dropNeedless_10 v0 v1 v3 FU y2 v2
def f_X0_dropNeedless (h : HP) (v0 : Nat) (v1 : Nat) (v2 : Int32) (v3 : Int32) : Option (HP) := (kO 0 h v0).bind fun _ => b_X0_dropNeedless_0 v0 v1 v2 v3 h
theorem wc_X0_dropNeedless_10 {l : Launch} {X : SCR} {Q : PST} {bc bs : Nat} {res : HP} (hQ : ∀ sz', Q (.inl none) res sz') {v0 : Nat} {v1 : Nat} {v3 : Int32} {k10 : HP → Int32 → Option (HP)} (hk10 : ∀ (h : HP) (v4 : Int32) (sz : Nat), k10 h v4 = some res → SP l X M_X0_dropNeedless 10 [(0, .ref v0), (1, .ref v1), (3, .int v3), (4, .int v4)] [] h sz bc bs Q) {h : HP} {v4 : Int32} {sz : Nat} (hf : c_X0_dropNeedless_10 v0 v1 v3 k10 h v4 = some res) : SP l X M_X0_dropNeedless 10 [(0, .ref v0), (1, .ref v1), (3, .int v3), (4, .int v4)] [] h sz bc bs Q := by
  rw [c_X0_dropNeedless_10] at hf
  refine sp_iload (pc := 10) dX0_dropNeedless_10 3 rfl ?_
  refine sp_iload_n (pc := 12) dX0_dropNeedless_12 2 rfl ?_
  refine sp_icmp_ge (pc := 13) (tgt := 62) dX0_dropNeedless_13 (by decide) (fun c1 => ?_) (fun c1 => ?_)
  · rw [if_pos c1] at hf
    obtain rfl := Option.some.inj hf
    exact sp_return (pc := 62) dX0_dropNeedless_62 rfl (hQ _)
  · rw [if_neg c1] at hf
    refine sp_aload_n (pc := 16) dX0_dropNeedless_16 1 rfl ?_
    refine sp_iload (pc := 17) dX0_dropNeedless_17 3 rfl ?_
    obtain ⟨y2, ey2, hf⟩ := ob hf
    obtain ⟨fsy2, hoy2⟩ := o_X6_isEntry ey2
    refine sp_callVi (pc := 19) (z := M_X6_isEntry) (As := [.int v4]) (b := v1) (bc2 := bc) (bs2 := bs) (m_X6_isEntry (Q := _) (fun sz => ⟨y2, rfl, ?_⟩) ey2) rfl dX0_dropNeedless_19 hoy2 rfl rfl ck_X0_dropNeedless_88 (Nat.le_of_ble_eq_true rfl) rfl rfl rfl
    refine sp_if_eq (pc := 22) (tgt := 42) dX0_dropNeedless_22 (by decide) (fun c3 => ?_) (fun c3 => ?_)
    · rw [if_pos c3] at hf
      refine sp_aload_n (pc := 42) dX0_dropNeedless_42 0 rfl ?_
      obtain ⟨x4, ex4, hf⟩ := ob hf
      refine sp_gR (pc := 43) fl_RX0_22 dX0_dropNeedless_43 ex4 ?_
      refine sp_iload (pc := 46) dX0_dropNeedless_46 3 rfl ?_
      obtain ⟨x5, ex5, hf⟩ := ob hf
      refine sp_aR3 (pc := 48) dX0_dropNeedless_48 ex5 ?_
      refine sp_aload_n (pc := 49) dX0_dropNeedless_49 0 rfl ?_
      obtain ⟨x6, ex6, hf⟩ := ob hf
      refine sp_gR (pc := 50) fl_RX0_34 dX0_dropNeedless_50 ex6 ?_
      obtain ⟨y7, ey7, hf⟩ := ob hf
      obtain ⟨fsy7, hoy7⟩ := o_X2_keepOnly ey7
      refine sp_callVv (pc := 53) (z := M_X2_keepOnly) (As := [.ref x6]) (b := x5) (bc2 := bc) (bs2 := bs) (m_X2_keepOnly (Q := _) (fun sz => ⟨(), rfl, ?_⟩) ey7) rfl dX0_dropNeedless_53 hoy7 rfl rfl ck_X0_dropNeedless_99 (Nat.le_of_ble_eq_true rfl) rfl rfl rfl
      refine sp_iinc (pc := 56) (v := v4 + 1) (lv' := [(4, .int (v4 + 1)), (0, .ref v0), (1, .ref v1), (3, .int v3)]) dX0_dropNeedless_56 3 rfl rfl (by decide) rfl ?_
      refine sp_goto (pc := 59) (tgt := 10) dX0_dropNeedless_59 (by decide) ?_
      exact sp_sub [1, 2, 3, 0] rfl (hk10 _ _ _ hf)
    · rw [if_neg c3] at hf
      refine sp_aload_n (pc := 25) dX0_dropNeedless_25 0 rfl ?_
      obtain ⟨x8, ex8, hf⟩ := ob hf
      refine sp_gR (pc := 26) fl_RX0_34 dX0_dropNeedless_26 ex8 ?_
      refine sp_aload_n (pc := 29) dX0_dropNeedless_29 0 rfl ?_
      obtain ⟨x9, ex9, hf⟩ := ob hf
      refine sp_gR (pc := 30) fl_RX0_22 dX0_dropNeedless_30 ex9 ?_
      refine sp_iload (pc := 33) dX0_dropNeedless_33 3 rfl ?_
      obtain ⟨x10, ex10, hf⟩ := ob hf
      refine sp_aR3 (pc := 35) dX0_dropNeedless_35 ex10 ?_
      obtain ⟨y11, ey11, hf⟩ := ob hf
      obtain ⟨fsy11, hoy11⟩ := o_X2_addAll ey11
      refine sp_callVv (pc := 36) (z := M_X2_addAll) (As := [.ref x10]) (b := x8) (bc2 := bc) (bs2 := bs) (m_X2_addAll (Q := _) (fun sz => ⟨(), rfl, ?_⟩) ey11) rfl dX0_dropNeedless_36 hoy11 rfl rfl ck_X0_dropNeedless_96 (Nat.le_of_ble_eq_true rfl) rfl rfl rfl
      refine sp_goto (pc := 39) (tgt := 56) dX0_dropNeedless_39 (by decide) ?_
      refine sp_iinc (pc := 56) (v := v4 + 1) (lv' := [(4, .int (v4 + 1)), (0, .ref v0), (1, .ref v1), (3, .int v3)]) dX0_dropNeedless_56 3 rfl rfl (by decide) rfl ?_
      refine sp_goto (pc := 59) (tgt := 10) dX0_dropNeedless_59 (by decide) ?_
      exact sp_sub [1, 2, 3, 0] rfl (hk10 _ _ _ hf)

theorem w_X0_dropNeedless_10 {l : Launch} {X : SCR} {Q : PST} {bc bs : Nat} {res : HP} (hQ : ∀ sz', Q (.inl none) res sz') {v0 : Nat} {v1 : Nat} {v3 : Int32} : ∀ (n : Nat) {h : HP} {v4 : Int32} {sz : Nat}, b_X0_dropNeedless_10 v0 v1 v3 n h v4 = some res → SP l X M_X0_dropNeedless 10 [(0, .ref v0), (1, .ref v1), (3, .int v3), (4, .int v4)] [] h sz bc bs Q := by
  intro n
  induction n with
  | zero =>
    intro h v4 sz hf
    rw [b_X0_dropNeedless_10] at hf
    cases hf
  | succ n ih =>
    intro h v4 sz hf
    rw [b_X0_dropNeedless_10] at hf
    exact wc_X0_dropNeedless_10 hQ (fun h v4 sz hf => ih hf) hf

theorem w_X0_dropNeedless_0 {l : Launch} {X : SCR} {Q : PST} {bc bs : Nat} {res : HP} {h : HP} (hQ : ∀ sz', Q (.inl none) res sz') {v0 : Nat} {v1 : Nat} {v2 : Int32} {v3 : Int32} {sz : Nat} (hf : b_X0_dropNeedless_0 v0 v1 v2 v3 h  = some res) : SP l X M_X0_dropNeedless 0 [(0, .ref v0), (1, .ref v1), (2, .int v2), (3, .int v3)] [] h sz bc bs Q := by
  rw [b_X0_dropNeedless_0] at hf
  refine sp_aload_n (pc := 0) dX0_dropNeedless_0 0 rfl ?_
  obtain ⟨x1, ex1, hf⟩ := ob hf
  refine sp_gR (pc := 1) fl_RX0_34 dX0_dropNeedless_1 ex1 ?_
  obtain ⟨y2, ey2, hf⟩ := ob hf
  obtain ⟨fsy2, hoy2⟩ := o_X2_empty ey2
  refine sp_callVv (pc := 4) (z := M_X2_empty) (As := []) (b := x1) (bc2 := bc) (bs2 := bs) (m_X2_empty (Q := _) (fun sz => ⟨(), rfl, ?_⟩) ey2) rfl dX0_dropNeedless_4 hoy2 rfl rfl ck_X0_dropNeedless_77 (Nat.le_of_ble_eq_true rfl) rfl rfl rfl
  refine sp_iload_n (pc := 7) dX0_dropNeedless_7 2 rfl ?_
  refine sp_istore (pc := 8) (lv' := [(4, .int v2), (0, .ref v0), (1, .ref v1), (2, .int v2), (3, .int v3)]) dX0_dropNeedless_8 (by decide) rfl ?_
  exact sp_sub [1, 2, 4, 0] rfl (w_X0_dropNeedless_10 hQ FU hf)

theorem o_X0_dropNeedless {h : HP} {v0 : Nat} {v1 : Nat} {v2 : Int32} {v3 : Int32} {res : HP} (hf : f_X0_dropNeedless h v0 v1 v2 v3 = some res) : ∃ fs, h v0 = some (.inr (0, fs)) := by
  obtain ⟨u, eu, -⟩ := ob hf
  exact kO_spec eu

theorem m_X0_dropNeedless {l : Launch} {Q : PST} {h : HP} {v0 : Nat} {v1 : Nat} {v2 : Int32} {v3 : Int32} {sz : Nat} {res : HP} (hQ : ∀ sz', Q (.inl none) res sz') (hf : f_X0_dropNeedless h v0 v1 v2 v3 = some res) : MM l M_X0_dropNeedless [.ref v0, .ref v1, .int v2, .int v3] h sz Q := by
  obtain ⟨u, eu, hf⟩ := ob hf
  exact MM_of wok_X0_dropNeedless (by decide +kernel) (Nat.le_of_ble_eq_true rfl) ((w_X0_dropNeedless_0 hQ hf))

theorem dX2_has_0 : decode (mB M_X2_has) 0 = .ok (.iload_n 1, 1) := by decide +kernel
theorem dX2_has_1 : decode (mB M_X2_has) 1 = .ok (.ifCond .lt 9, 3) := by decide +kernel
theorem dX2_has_4 : decode (mB M_X2_has) 4 = .ok (.iload_n 1, 1) := by decide +kernel
theorem dX2_has_5 : decode (mB M_X2_has) 5 = .ok (.bipush 100, 2) := by decide +kernel
theorem dX2_has_7 : decode (mB M_X2_has) 7 = .ok (.if_icmp .lt 5, 3) := by decide +kernel
theorem dX2_has_10 : decode (mB M_X2_has) 10 = .ok (.iconst 0, 1) := by decide +kernel
theorem dX2_has_11 : decode (mB M_X2_has) 11 = .ok (.ireturn, 1) := by decide +kernel
theorem dX2_has_12 : decode (mB M_X2_has) 12 = .ok (.iload_n 1, 1) := by decide +kernel
theorem dX2_has_13 : decode (mB M_X2_has) 13 = .ok (.bipush 64, 2) := by decide +kernel
theorem dX2_has_15 : decode (mB M_X2_has) 15 = .ok (.if_icmp .ge 12, 3) := by decide +kernel
theorem dX2_has_18 : decode (mB M_X2_has) 18 = .ok (.aload_n 0, 1) := by decide +kernel
theorem dX2_has_19 : decode (mB M_X2_has) 19 = .ok (.getfield 9, 3) := by decide +kernel
theorem dX2_has_22 : decode (mB M_X2_has) 22 = .ok (.iload_n 1, 1) := by decide +kernel
theorem dX2_has_23 : decode (mB M_X2_has) 23 = .ok (.lushr, 1) := by decide +kernel
theorem dX2_has_24 : decode (mB M_X2_has) 24 = .ok (.goto 12, 3) := by decide +kernel
theorem dX2_has_27 : decode (mB M_X2_has) 27 = .ok (.aload_n 0, 1) := by decide +kernel
theorem dX2_has_28 : decode (mB M_X2_has) 28 = .ok (.getfield 15, 3) := by decide +kernel
theorem dX2_has_31 : decode (mB M_X2_has) 31 = .ok (.iload_n 1, 1) := by decide +kernel
theorem dX2_has_32 : decode (mB M_X2_has) 32 = .ok (.bipush 64, 2) := by decide +kernel
theorem dX2_has_34 : decode (mB M_X2_has) 34 = .ok (.isub, 1) := by decide +kernel
theorem dX2_has_35 : decode (mB M_X2_has) 35 = .ok (.lushr, 1) := by decide +kernel
theorem dX2_has_36 : decode (mB M_X2_has) 36 = .ok (.lstore_n 2, 1) := by decide +kernel
theorem dX2_has_37 : decode (mB M_X2_has) 37 = .ok (.lload_n 2, 1) := by decide +kernel
theorem dX2_has_38 : decode (mB M_X2_has) 38 = .ok (.lconst 1, 1) := by decide +kernel
theorem dX2_has_39 : decode (mB M_X2_has) 39 = .ok (.land, 1) := by decide +kernel
theorem dX2_has_40 : decode (mB M_X2_has) 40 = .ok (.lconst 0, 1) := by decide +kernel
theorem dX2_has_41 : decode (mB M_X2_has) 41 = .ok (.lcmp, 1) := by decide +kernel
theorem dX2_has_42 : decode (mB M_X2_has) 42 = .ok (.ifCond .eq 7, 3) := by decide +kernel
theorem dX2_has_45 : decode (mB M_X2_has) 45 = .ok (.iconst 1, 1) := by decide +kernel
theorem dX2_has_46 : decode (mB M_X2_has) 46 = .ok (.goto 4, 3) := by decide +kernel
theorem dX2_has_49 : decode (mB M_X2_has) 49 = .ok (.iconst 0, 1) := by decide +kernel
theorem dX2_has_50 : decode (mB M_X2_has) 50 = .ok (.ireturn, 1) := by decide +kernel
def b_X2_has_36 (h : HP) (s0 : Int64) : Option (Int32) :=
  if (lg_cmp (s0 &&& 1) 0) = 0 then some (0) else some (1)
def b_X2_has_0 (h : HP) (v0 : Nat) (v1 : Int32) : Option (Int32) :=
  if v1 < 0 then some (0) else if v1 < 100 then if 64 ≤ v1 then (gL 2 1 h v0).bind fun x4 => b_X2_has_36 h (jlushr x4 (v1 - 64)) else (gL 2 0 h v0).bind fun x5 => b_X2_has_36 h (jlushr x5 v1) else some (0)
def f_X2_has (h : HP) (v0 : Nat) (v1 : Int32) : Option (Int32) := (kO 2 h v0).bind fun _ => b_X2_has_0 h v0 v1
theorem w_X2_has_36 {l : Launch} {X : SCR} {Q : PST} {bc bs : Nat} {res : Int32} {h : HP} (hQ : ∀ sz', Q (.inl (some (.int res))) h sz') {s0 : Int64} {sz : Nat} (hf : b_X2_has_36 h s0 = some res) : SP l X M_X2_has 36 [] [.long s0] h sz bc bs Q := by
  rw [b_X2_has_36] at hf
  refine sp_lstore_n (pc := 36) (lv' := [(2, .long s0)]) dX2_has_36 (by decide) rfl ?_
  refine sp_lload_n (pc := 37) dX2_has_37 0 rfl ?_
  refine sp_lconst (pc := 38) (v := 1) dX2_has_38 (by decide) ?_
  refine sp_land (pc := 39) dX2_has_39 ?_
  refine sp_lconst (pc := 40) (v := 0) dX2_has_40 (by decide) ?_
  refine sp_lcmp (pc := 41) dX2_has_41 ?_
  refine sp_if_eq (pc := 42) (tgt := 49) dX2_has_42 (by decide) (fun c1 => ?_) (fun c1 => ?_)
  · rw [if_pos c1] at hf
    refine sp_iconst (pc := 49) (v := 0) dX2_has_49 (by decide) ?_
    obtain rfl := Option.some.inj hf
    exact sp_ireturn (pc := 50) dX2_has_50 rfl rfl (hQ _)
  · rw [if_neg c1] at hf
    refine sp_iconst (pc := 45) (v := 1) dX2_has_45 (by decide) ?_
    refine sp_goto (pc := 46) (tgt := 50) dX2_has_46 (by decide) ?_
    obtain rfl := Option.some.inj hf
    exact sp_ireturn (pc := 50) dX2_has_50 rfl rfl (hQ _)

theorem w_X2_has_0 {l : Launch} {X : SCR} {Q : PST} {bc bs : Nat} {res : Int32} {h : HP} (hQ : ∀ sz', Q (.inl (some (.int res))) h sz') {v0 : Nat} {v1 : Int32} {sz : Nat} (hf : b_X2_has_0 h v0 v1  = some res) : SP l X M_X2_has 0 [(0, .ref v0), (1, .int v1)] [] h sz bc bs Q := by
  rw [b_X2_has_0] at hf
  refine sp_iload_n (pc := 0) dX2_has_0 1 rfl ?_
  refine sp_if_lt (pc := 1) (tgt := 10) dX2_has_1 (by decide) (fun c1 => ?_) (fun c1 => ?_)
  · rw [if_pos c1] at hf
    refine sp_iconst (pc := 10) (v := 0) dX2_has_10 (by decide) ?_
    obtain rfl := Option.some.inj hf
    exact sp_ireturn (pc := 11) dX2_has_11 rfl rfl (hQ _)
  · rw [if_neg c1] at hf
    refine sp_iload_n (pc := 4) dX2_has_4 1 rfl ?_
    refine sp_bipush (pc := 5) (v := 100) dX2_has_5 (by decide) ?_
    refine sp_icmp_lt (pc := 7) (tgt := 12) dX2_has_7 (by decide) (fun c2 => ?_) (fun c2 => ?_)
    · rw [if_pos c2] at hf
      refine sp_iload_n (pc := 12) dX2_has_12 1 rfl ?_
      refine sp_bipush (pc := 13) (v := 64) dX2_has_13 (by decide) ?_
      refine sp_icmp_ge (pc := 15) (tgt := 27) dX2_has_15 (by decide) (fun c3 => ?_) (fun c3 => ?_)
      · rw [if_pos c3] at hf
        refine sp_aload_n (pc := 27) dX2_has_27 0 rfl ?_
        obtain ⟨x4, ex4, hf⟩ := ob hf
        refine sp_gL (pc := 28) fl_RX2_15 dX2_has_28 ex4 ?_
        refine sp_iload_n (pc := 31) dX2_has_31 1 rfl ?_
        refine sp_bipush (pc := 32) (v := 64) dX2_has_32 (by decide) ?_
        refine sp_isub (pc := 34) dX2_has_34 ?_
        refine sp_lushrJ (pc := 35) dX2_has_35 ?_
        exact sp_sub [] rfl (w_X2_has_36 hQ hf)
      · rw [if_neg c3] at hf
        refine sp_aload_n (pc := 18) dX2_has_18 0 rfl ?_
        obtain ⟨x5, ex5, hf⟩ := ob hf
        refine sp_gL (pc := 19) fl_RX2_9 dX2_has_19 ex5 ?_
        refine sp_iload_n (pc := 22) dX2_has_22 1 rfl ?_
        refine sp_lushrJ (pc := 23) dX2_has_23 ?_
        refine sp_goto (pc := 24) (tgt := 36) dX2_has_24 (by decide) ?_
        exact sp_sub [] rfl (w_X2_has_36 hQ hf)
    · rw [if_neg c2] at hf
      refine sp_iconst (pc := 10) (v := 0) dX2_has_10 (by decide) ?_
      obtain rfl := Option.some.inj hf
      exact sp_ireturn (pc := 11) dX2_has_11 rfl rfl (hQ _)

theorem o_X2_has {h : HP} {v0 : Nat} {v1 : Int32} {res : Int32} (hf : f_X2_has h v0 v1 = some res) : ∃ fs, h v0 = some (.inr (2, fs)) := by
  obtain ⟨u, eu, -⟩ := ob hf
  exact kO_spec eu

theorem m_X2_has {l : Launch} {Q : PST} {h : HP} {v0 : Nat} {v1 : Int32} {sz : Nat} {res : Int32} (hQ : ∀ sz', Q (.inl (some (.int res))) h sz') (hf : f_X2_has h v0 v1 = some res) : MM l M_X2_has [.ref v0, .int v1] h sz Q := by
  obtain ⟨u, eu, hf⟩ := ob hf
  exact MM_of wok_X2_has (by decide +kernel) (Nat.le_of_ble_eq_true rfl) ((w_X2_has_0 hQ hf))

theorem dX6_valueAt_0 : decode (mB M_X6_valueAt) 0 = .ok (.iload_n 1, 1) := by decide +kernel
theorem dX6_valueAt_1 : decode (mB M_X6_valueAt) 1 = .ok (.ifCond .lt 20, 3) := by decide +kernel
theorem dX6_valueAt_4 : decode (mB M_X6_valueAt) 4 = .ok (.iload_n 1, 1) := by decide +kernel
theorem dX6_valueAt_5 : decode (mB M_X6_valueAt) 5 = .ok (.aload_n 0, 1) := by decide +kernel
theorem dX6_valueAt_6 : decode (mB M_X6_valueAt) 6 = .ok (.getfield 30, 3) := by decide +kernel
theorem dX6_valueAt_9 : decode (mB M_X6_valueAt) 9 = .ok (.if_icmp .ge 12, 3) := by decide +kernel
theorem dX6_valueAt_12 : decode (mB M_X6_valueAt) 12 = .ok (.aload_n 0, 1) := by decide +kernel
theorem dX6_valueAt_13 : decode (mB M_X6_valueAt) 13 = .ok (.getfield 27, 3) := by decide +kernel
theorem dX6_valueAt_16 : decode (mB M_X6_valueAt) 16 = .ok (.iload_n 1, 1) := by decide +kernel
theorem dX6_valueAt_17 : decode (mB M_X6_valueAt) 17 = .ok (.iaload, 1) := by decide +kernel
theorem dX6_valueAt_18 : decode (mB M_X6_valueAt) 18 = .ok (.goto 4, 3) := by decide +kernel
theorem dX6_valueAt_21 : decode (mB M_X6_valueAt) 21 = .ok (.iconst 0, 1) := by decide +kernel
theorem dX6_valueAt_22 : decode (mB M_X6_valueAt) 22 = .ok (.ireturn, 1) := by decide +kernel
def b_X6_valueAt_0 (h : HP) (v0 : Nat) (v1 : Int32) : Option (Int32) :=
  if v1 < 0 then some (0) else (gI 6 4 h v0).bind fun x2 => if x2 ≤ v1 then some (0) else (gR 6 3 h v0).bind fun x4 => (aI h x4 v1).bind fun x5 => some (x5)
def f_X6_valueAt (h : HP) (v0 : Nat) (v1 : Int32) : Option (Int32) := (kO 6 h v0).bind fun _ => b_X6_valueAt_0 h v0 v1
theorem w_X6_valueAt_0 {l : Launch} {X : SCR} {Q : PST} {bc bs : Nat} {res : Int32} {h : HP} (hQ : ∀ sz', Q (.inl (some (.int res))) h sz') {v0 : Nat} {v1 : Int32} {sz : Nat} (hf : b_X6_valueAt_0 h v0 v1  = some res) : SP l X M_X6_valueAt 0 [(0, .ref v0), (1, .int v1)] [] h sz bc bs Q := by
  rw [b_X6_valueAt_0] at hf
  refine sp_iload_n (pc := 0) dX6_valueAt_0 1 rfl ?_
  refine sp_if_lt (pc := 1) (tgt := 21) dX6_valueAt_1 (by decide) (fun c1 => ?_) (fun c1 => ?_)
  · rw [if_pos c1] at hf
    refine sp_iconst (pc := 21) (v := 0) dX6_valueAt_21 (by decide) ?_
    obtain rfl := Option.some.inj hf
    exact sp_ireturn (pc := 22) dX6_valueAt_22 rfl rfl (hQ _)
  · rw [if_neg c1] at hf
    refine sp_iload_n (pc := 4) dX6_valueAt_4 1 rfl ?_
    refine sp_aload_n (pc := 5) dX6_valueAt_5 0 rfl ?_
    obtain ⟨x2, ex2, hf⟩ := ob hf
    refine sp_gI (pc := 6) fl_RX6_30 dX6_valueAt_6 ex2 ?_
    refine sp_icmp_ge (pc := 9) (tgt := 21) dX6_valueAt_9 (by decide) (fun c3 => ?_) (fun c3 => ?_)
    · rw [if_pos c3] at hf
      refine sp_iconst (pc := 21) (v := 0) dX6_valueAt_21 (by decide) ?_
      obtain rfl := Option.some.inj hf
      exact sp_ireturn (pc := 22) dX6_valueAt_22 rfl rfl (hQ _)
    · rw [if_neg c3] at hf
      refine sp_aload_n (pc := 12) dX6_valueAt_12 0 rfl ?_
      obtain ⟨x4, ex4, hf⟩ := ob hf
      refine sp_gR (pc := 13) fl_RX6_27 dX6_valueAt_13 ex4 ?_
      refine sp_iload_n (pc := 16) dX6_valueAt_16 1 rfl ?_
      obtain ⟨x5, ex5, hf⟩ := ob hf
      refine sp_aI (pc := 17) dX6_valueAt_17 ex5 ?_
      refine sp_goto (pc := 18) (tgt := 22) dX6_valueAt_18 (by decide) ?_
      obtain rfl := Option.some.inj hf
      exact sp_ireturn (pc := 22) dX6_valueAt_22 rfl rfl (hQ _)

theorem o_X6_valueAt {h : HP} {v0 : Nat} {v1 : Int32} {res : Int32} (hf : f_X6_valueAt h v0 v1 = some res) : ∃ fs, h v0 = some (.inr (6, fs)) := by
  obtain ⟨u, eu, -⟩ := ob hf
  exact kO_spec eu

theorem m_X6_valueAt {l : Launch} {Q : PST} {h : HP} {v0 : Nat} {v1 : Int32} {sz : Nat} {res : Int32} (hQ : ∀ sz', Q (.inl (some (.int res))) h sz') (hf : f_X6_valueAt h v0 v1 = some res) : MM l M_X6_valueAt [.ref v0, .int v1] h sz Q := by
  obtain ⟨u, eu, hf⟩ := ob hf
  exact MM_of wok_X6_valueAt (by decide +kernel) (Nat.le_of_ble_eq_true rfl) ((w_X6_valueAt_0 hQ hf))

theorem dX6_add_0 : decode (mB M_X6_add) 0 = .ok (.aload_n 0, 1) := by decide +kernel
theorem dX6_add_1 : decode (mB M_X6_add) 1 = .ok (.getfield 30, 3) := by decide +kernel
theorem dX6_add_4 : decode (mB M_X6_add) 4 = .ok (.aload_n 0, 1) := by decide +kernel
theorem dX6_add_5 : decode (mB M_X6_add) 5 = .ok (.getfield 15, 3) := by decide +kernel
theorem dX6_add_8 : decode (mB M_X6_add) 8 = .ok (.arraylength, 1) := by decide +kernel
theorem dX6_add_9 : decode (mB M_X6_add) 9 = .ok (.if_icmp .ge 54, 3) := by decide +kernel
theorem dX6_add_12 : decode (mB M_X6_add) 12 = .ok (.aload_n 0, 1) := by decide +kernel
theorem dX6_add_13 : decode (mB M_X6_add) 13 = .ok (.getfield 15, 3) := by decide +kernel
theorem dX6_add_16 : decode (mB M_X6_add) 16 = .ok (.aload_n 0, 1) := by decide +kernel
theorem dX6_add_17 : decode (mB M_X6_add) 17 = .ok (.getfield 30, 3) := by decide +kernel
theorem dX6_add_20 : decode (mB M_X6_add) 20 = .ok (.iload_n 1, 1) := by decide +kernel
theorem dX6_add_21 : decode (mB M_X6_add) 21 = .ok (.iastore, 1) := by decide +kernel
theorem dX6_add_22 : decode (mB M_X6_add) 22 = .ok (.aload_n 0, 1) := by decide +kernel
theorem dX6_add_23 : decode (mB M_X6_add) 23 = .ok (.getfield 21, 3) := by decide +kernel
theorem dX6_add_26 : decode (mB M_X6_add) 26 = .ok (.aload_n 0, 1) := by decide +kernel
theorem dX6_add_27 : decode (mB M_X6_add) 27 = .ok (.getfield 30, 3) := by decide +kernel
theorem dX6_add_30 : decode (mB M_X6_add) 30 = .ok (.iload_n 2, 1) := by decide +kernel
theorem dX6_add_31 : decode (mB M_X6_add) 31 = .ok (.iastore, 1) := by decide +kernel
theorem dX6_add_32 : decode (mB M_X6_add) 32 = .ok (.aload_n 0, 1) := by decide +kernel
theorem dX6_add_33 : decode (mB M_X6_add) 33 = .ok (.getfield 24, 3) := by decide +kernel
theorem dX6_add_36 : decode (mB M_X6_add) 36 = .ok (.aload_n 0, 1) := by decide +kernel
theorem dX6_add_37 : decode (mB M_X6_add) 37 = .ok (.getfield 30, 3) := by decide +kernel
theorem dX6_add_40 : decode (mB M_X6_add) 40 = .ok (.iload_n 3, 1) := by decide +kernel
theorem dX6_add_41 : decode (mB M_X6_add) 41 = .ok (.iastore, 1) := by decide +kernel
theorem dX6_add_42 : decode (mB M_X6_add) 42 = .ok (.aload_n 0, 1) := by decide +kernel
theorem dX6_add_43 : decode (mB M_X6_add) 43 = .ok (.getfield 27, 3) := by decide +kernel
theorem dX6_add_46 : decode (mB M_X6_add) 46 = .ok (.aload_n 0, 1) := by decide +kernel
theorem dX6_add_47 : decode (mB M_X6_add) 47 = .ok (.getfield 30, 3) := by decide +kernel
theorem dX6_add_50 : decode (mB M_X6_add) 50 = .ok (.iload 4, 2) := by decide +kernel
theorem dX6_add_52 : decode (mB M_X6_add) 52 = .ok (.iastore, 1) := by decide +kernel
theorem dX6_add_53 : decode (mB M_X6_add) 53 = .ok (.aload_n 0, 1) := by decide +kernel
theorem dX6_add_54 : decode (mB M_X6_add) 54 = .ok (.dup, 1) := by decide +kernel
theorem dX6_add_55 : decode (mB M_X6_add) 55 = .ok (.getfield 30, 3) := by decide +kernel
theorem dX6_add_58 : decode (mB M_X6_add) 58 = .ok (.iconst 1, 1) := by decide +kernel
theorem dX6_add_59 : decode (mB M_X6_add) 59 = .ok (.iadd, 1) := by decide +kernel
theorem dX6_add_60 : decode (mB M_X6_add) 60 = .ok (.putfield 30, 3) := by decide +kernel
theorem dX6_add_63 : decode (mB M_X6_add) 63 = .ok (.return_, 1) := by decide +kernel
def b_X6_add_0 (v0 : Nat) (v1 : Int32) (v2 : Int32) (v3 : Int32) (v4 : Int32) (h : HP) : Option (HP) :=
  (gI 6 4 h v0).bind fun x1 => (gR 6 0 h v0).bind fun x2 => (aN h x2).bind fun x3 => if x3 ≤ x1 then some h else (gR 6 0 h v0).bind fun x5 => (gI 6 4 h v0).bind fun x6 => (wI h x5 x6 v1).bind fun h7 => (gR 6 1 h7 v0).bind fun x8 => (gI 6 4 h7 v0).bind fun x9 => (wI h7 x8 x9 v2).bind fun h10 => (gR 6 2 h10 v0).bind fun x11 => (gI 6 4 h10 v0).bind fun x12 => (wI h10 x11 x12 v3).bind fun h13 => (gR 6 3 h13 v0).bind fun x14 => (gI 6 4 h13 v0).bind fun x15 => (wI h13 x14 x15 v4).bind fun h16 => (gI 6 4 h16 v0).bind fun x17 => (pI 6 4 h16 v0 (x17 + 1)).bind fun h18 => some h18
def f_X6_add (h : HP) (v0 : Nat) (v1 : Int32) (v2 : Int32) (v3 : Int32) (v4 : Int32) : Option (HP) := (kO 6 h v0).bind fun _ => b_X6_add_0 v0 v1 v2 v3 v4 h
theorem w_X6_add_0 {l : Launch} {X : SCR} {Q : PST} {bc bs : Nat} {res : HP} {h : HP} (hQ : ∀ sz', Q (.inl none) res sz') {v0 : Nat} {v1 : Int32} {v2 : Int32} {v3 : Int32} {v4 : Int32} {sz : Nat} (hf : b_X6_add_0 v0 v1 v2 v3 v4 h  = some res) : SP l X M_X6_add 0 [(0, .ref v0), (1, .int v1), (2, .int v2), (3, .int v3), (4, .int v4)] [] h sz bc bs Q := by
  rw [b_X6_add_0] at hf
  refine sp_aload_n (pc := 0) dX6_add_0 0 rfl ?_
  obtain ⟨x1, ex1, hf⟩ := ob hf
  refine sp_gI (pc := 1) fl_RX6_30 dX6_add_1 ex1 ?_
  refine sp_aload_n (pc := 4) dX6_add_4 0 rfl ?_
  obtain ⟨x2, ex2, hf⟩ := ob hf
  refine sp_gR (pc := 5) fl_RX6_15 dX6_add_5 ex2 ?_
  obtain ⟨x3, ex3, hf⟩ := ob hf
  refine sp_aN (pc := 8) dX6_add_8 ex3 ?_
  refine sp_icmp_ge (pc := 9) (tgt := 63) dX6_add_9 (by decide) (fun c4 => ?_) (fun c4 => ?_)
  · rw [if_pos c4] at hf
    obtain rfl := Option.some.inj hf
    exact sp_return (pc := 63) dX6_add_63 rfl (hQ _)
  · rw [if_neg c4] at hf
    refine sp_aload_n (pc := 12) dX6_add_12 0 rfl ?_
    obtain ⟨x5, ex5, hf⟩ := ob hf
    refine sp_gR (pc := 13) fl_RX6_15 dX6_add_13 ex5 ?_
    refine sp_aload_n (pc := 16) dX6_add_16 0 rfl ?_
    obtain ⟨x6, ex6, hf⟩ := ob hf
    refine sp_gI (pc := 17) fl_RX6_30 dX6_add_17 ex6 ?_
    refine sp_iload_n (pc := 20) dX6_add_20 1 rfl ?_
    obtain ⟨h7, eh7, hf⟩ := ob hf
    refine sp_wI (pc := 21) dX6_add_21 eh7 (fun sz => ?_)
    refine sp_aload_n (pc := 22) dX6_add_22 0 rfl ?_
    obtain ⟨x8, ex8, hf⟩ := ob hf
    refine sp_gR (pc := 23) fl_RX6_21 dX6_add_23 ex8 ?_
    refine sp_aload_n (pc := 26) dX6_add_26 0 rfl ?_
    obtain ⟨x9, ex9, hf⟩ := ob hf
    refine sp_gI (pc := 27) fl_RX6_30 dX6_add_27 ex9 ?_
    refine sp_iload_n (pc := 30) dX6_add_30 2 rfl ?_
    obtain ⟨h10, eh10, hf⟩ := ob hf
    refine sp_wI (pc := 31) dX6_add_31 eh10 (fun sz => ?_)
    refine sp_aload_n (pc := 32) dX6_add_32 0 rfl ?_
    obtain ⟨x11, ex11, hf⟩ := ob hf
    refine sp_gR (pc := 33) fl_RX6_24 dX6_add_33 ex11 ?_
    refine sp_aload_n (pc := 36) dX6_add_36 0 rfl ?_
    obtain ⟨x12, ex12, hf⟩ := ob hf
    refine sp_gI (pc := 37) fl_RX6_30 dX6_add_37 ex12 ?_
    refine sp_iload_n (pc := 40) dX6_add_40 3 rfl ?_
    obtain ⟨h13, eh13, hf⟩ := ob hf
    refine sp_wI (pc := 41) dX6_add_41 eh13 (fun sz => ?_)
    refine sp_aload_n (pc := 42) dX6_add_42 0 rfl ?_
    obtain ⟨x14, ex14, hf⟩ := ob hf
    refine sp_gR (pc := 43) fl_RX6_27 dX6_add_43 ex14 ?_
    refine sp_aload_n (pc := 46) dX6_add_46 0 rfl ?_
    obtain ⟨x15, ex15, hf⟩ := ob hf
    refine sp_gI (pc := 47) fl_RX6_30 dX6_add_47 ex15 ?_
    refine sp_iload (pc := 50) dX6_add_50 4 rfl ?_
    obtain ⟨h16, eh16, hf⟩ := ob hf
    refine sp_wI (pc := 52) dX6_add_52 eh16 (fun sz => ?_)
    refine sp_aload_n (pc := 53) dX6_add_53 0 rfl ?_
    refine sp_dup (pc := 54) dX6_add_54 rfl ?_
    obtain ⟨x17, ex17, hf⟩ := ob hf
    refine sp_gI (pc := 55) fl_RX6_30 dX6_add_55 ex17 ?_
    refine sp_iconst (pc := 58) (v := 1) dX6_add_58 (by decide) ?_
    refine sp_iadd (pc := 59) dX6_add_59 ?_
    obtain ⟨h18, eh18, hf⟩ := ob hf
    refine sp_pI (pc := 60) pf_RX6_30 dX6_add_60 eh18 (fun sz => ?_)
    obtain rfl := Option.some.inj hf
    exact sp_return (pc := 63) dX6_add_63 rfl (hQ _)

theorem o_X6_add {h : HP} {v0 : Nat} {v1 : Int32} {v2 : Int32} {v3 : Int32} {v4 : Int32} {res : HP} (hf : f_X6_add h v0 v1 v2 v3 v4 = some res) : ∃ fs, h v0 = some (.inr (6, fs)) := by
  obtain ⟨u, eu, -⟩ := ob hf
  exact kO_spec eu

theorem m_X6_add {l : Launch} {Q : PST} {h : HP} {v0 : Nat} {v1 : Int32} {v2 : Int32} {v3 : Int32} {v4 : Int32} {sz : Nat} {res : HP} (hQ : ∀ sz', Q (.inl none) res sz') (hf : f_X6_add h v0 v1 v2 v3 v4 = some res) : MM l M_X6_add [.ref v0, .int v1, .int v2, .int v3, .int v4] h sz Q := by
  obtain ⟨u, eu, hf⟩ := ob hf
  exact MM_of wok_X6_add (by decide +kernel) (Nat.le_of_ble_eq_true rfl) ((w_X6_add_0 hQ hf))

theorem dX0_addRows_0 : decode (mB M_X0_addRows) 0 = .ok (.aload_n 0, 1) := by decide +kernel
theorem dX0_addRows_1 : decode (mB M_X0_addRows) 1 = .ok (.getfield 22, 3) := by decide +kernel
theorem dX0_addRows_4 : decode (mB M_X0_addRows) 4 = .ok (.iload_n 2, 1) := by decide +kernel
theorem dX0_addRows_5 : decode (mB M_X0_addRows) 5 = .ok (.aaload, 1) := by decide +kernel
theorem dX0_addRows_6 : decode (mB M_X0_addRows) 6 = .ok (.astore_n 3, 1) := by decide +kernel
theorem dX0_addRows_7 : decode (mB M_X0_addRows) 7 = .ok (.aload_n 1, 1) := by decide +kernel
theorem dX0_addRows_8 : decode (mB M_X0_addRows) 8 = .ok (.iload_n 2, 1) := by decide +kernel
theorem dX0_addRows_9 : decode (mB M_X0_addRows) 9 = .ok (.invokevirtual 81, 3) := by decide +kernel
theorem dX0_addRows_12 : decode (mB M_X0_addRows) 12 = .ok (.istore 4, 2) := by decide +kernel
theorem dX0_addRows_14 : decode (mB M_X0_addRows) 14 = .ok (.aload_n 1, 1) := by decide +kernel
theorem dX0_addRows_15 : decode (mB M_X0_addRows) 15 = .ok (.iload_n 2, 1) := by decide +kernel
theorem dX0_addRows_16 : decode (mB M_X0_addRows) 16 = .ok (.invokevirtual 78, 3) := by decide +kernel
theorem dX0_addRows_19 : decode (mB M_X0_addRows) 19 = .ok (.istore 5, 2) := by decide +kernel
theorem dX0_addRows_21 : decode (mB M_X0_addRows) 21 = .ok (.iload 5, 2) := by decide +kernel
theorem dX0_addRows_23 : decode (mB M_X0_addRows) 23 = .ok (.istore 6, 2) := by decide +kernel
theorem dX0_addRows_25 : decode (mB M_X0_addRows) 25 = .ok (.iload 6, 2) := by decide +kernel
theorem dX0_addRows_27 : decode (mB M_X0_addRows) 27 = .ok (.iload 4, 2) := by decide +kernel
theorem dX0_addRows_29 : decode (mB M_X0_addRows) 29 = .ok (.if_icmp .gt 66, 3) := by decide +kernel
theorem dX0_addRows_32 : decode (mB M_X0_addRows) 32 = .ok (.aload_n 3, 1) := by decide +kernel
theorem dX0_addRows_33 : decode (mB M_X0_addRows) 33 = .ok (.iload 6, 2) := by decide +kernel
theorem dX0_addRows_35 : decode (mB M_X0_addRows) 35 = .ok (.invokevirtual 102, 3) := by decide +kernel
theorem dX0_addRows_38 : decode (mB M_X0_addRows) 38 = .ok (.ifCond .ne 12, 3) := by decide +kernel
theorem dX0_addRows_41 : decode (mB M_X0_addRows) 41 = .ok (.iload 6, 2) := by decide +kernel
theorem dX0_addRows_43 : decode (mB M_X0_addRows) 43 = .ok (.iconst 1, 1) := by decide +kernel
theorem dX0_addRows_44 : decode (mB M_X0_addRows) 44 = .ok (.iadd, 1) := by decide +kernel
theorem dX0_addRows_45 : decode (mB M_X0_addRows) 45 = .ok (.istore 5, 2) := by decide +kernel
theorem dX0_addRows_47 : decode (mB M_X0_addRows) 47 = .ok (.goto 42, 3) := by decide +kernel
theorem dX0_addRows_50 : decode (mB M_X0_addRows) 50 = .ok (.iload 6, 2) := by decide +kernel
theorem dX0_addRows_52 : decode (mB M_X0_addRows) 52 = .ok (.iload 4, 2) := by decide +kernel
theorem dX0_addRows_54 : decode (mB M_X0_addRows) 54 = .ok (.if_icmp .eq 14, 3) := by decide +kernel
theorem dX0_addRows_57 : decode (mB M_X0_addRows) 57 = .ok (.aload_n 3, 1) := by decide +kernel
theorem dX0_addRows_58 : decode (mB M_X0_addRows) 58 = .ok (.iload 6, 2) := by decide +kernel
theorem dX0_addRows_60 : decode (mB M_X0_addRows) 60 = .ok (.iconst 1, 1) := by decide +kernel
theorem dX0_addRows_61 : decode (mB M_X0_addRows) 61 = .ok (.iadd, 1) := by decide +kernel
theorem dX0_addRows_62 : decode (mB M_X0_addRows) 62 = .ok (.invokevirtual 102, 3) := by decide +kernel
theorem dX0_addRows_65 : decode (mB M_X0_addRows) 65 = .ok (.ifCond .ne 24, 3) := by decide +kernel
theorem dX0_addRows_68 : decode (mB M_X0_addRows) 68 = .ok (.aload_n 0, 1) := by decide +kernel
theorem dX0_addRows_69 : decode (mB M_X0_addRows) 69 = .ok (.getfield 14, 3) := by decide +kernel
theorem dX0_addRows_72 : decode (mB M_X0_addRows) 72 = .ok (.aload_n 1, 1) := by decide +kernel
theorem dX0_addRows_73 : decode (mB M_X0_addRows) 73 = .ok (.iload_n 2, 1) := by decide +kernel
theorem dX0_addRows_74 : decode (mB M_X0_addRows) 74 = .ok (.invokevirtual 71, 3) := by decide +kernel
theorem dX0_addRows_77 : decode (mB M_X0_addRows) 77 = .ok (.iload 5, 2) := by decide +kernel
theorem dX0_addRows_79 : decode (mB M_X0_addRows) 79 = .ok (.iload 6, 2) := by decide +kernel
theorem dX0_addRows_81 : decode (mB M_X0_addRows) 81 = .ok (.aload_n 1, 1) := by decide +kernel
theorem dX0_addRows_82 : decode (mB M_X0_addRows) 82 = .ok (.iload_n 2, 1) := by decide +kernel
theorem dX0_addRows_83 : decode (mB M_X0_addRows) 83 = .ok (.invokevirtual 105, 3) := by decide +kernel
theorem dX0_addRows_86 : decode (mB M_X0_addRows) 86 = .ok (.invokevirtual 108, 3) := by decide +kernel
theorem dX0_addRows_89 : decode (mB M_X0_addRows) 89 = .ok (.iinc 6 1, 3) := by decide +kernel
theorem dX0_addRows_92 : decode (mB M_X0_addRows) 92 = .ok (.goto (-67), 3) := by decide +kernel
theorem dX0_addRows_95 : decode (mB M_X0_addRows) 95 = .ok (.return_, 1) := by decide +kernel
def b_X0_addRows_68 (v0 : Nat) (v1 : Nat) (v2 : Int32) (k25 : HP → Nat → Int32 → Int32 → Int32 → Option (HP)) (h : HP) (v3 : Nat) (v4 : Int32) (v5 : Int32) (v6 : Int32) : Option (HP) :=
  (gR 0 0 h v0).bind fun x1 => (f_X6_numberAt h v1 v2).bind fun y2 => (f_X6_valueAt h v1 v2).bind fun y3 => (f_X6_add h x1 y2 v5 v6 y3).bind fun y4 => k25 y4 v3 v4 v5 (v6 + 1)
def c_X0_addRows_25 (v0 : Nat) (v1 : Nat) (v2 : Int32) (k25 : HP → Nat → Int32 → Int32 → Int32 → Option (HP)) (h : HP) (v3 : Nat) (v4 : Int32) (v5 : Int32) (v6 : Int32) : Option (HP) :=
  if v4 < v6 then some h else (f_X2_has h v3 v6).bind fun y2 => if y2 = 0 then k25 h v3 v4 (v6 + 1) (v6 + 1) else if v6 = v4 then b_X0_addRows_68 v0 v1 v2 k25 h v3 v4 v5 v6 else (f_X2_has h v3 (v6 + 1)).bind fun y5 => if y5 = 0 then b_X0_addRows_68 v0 v1 v2 k25 h v3 v4 v5 v6 else k25 h v3 v4 v5 (v6 + 1)
def b_X0_addRows_25 (v0 : Nat) (v1 : Nat) (v2 : Int32) : Nat → HP → Nat → Int32 → Int32 → Int32 → Option (HP)
  | 0, _, _, _, _, _ => none
  | n + 1, h, v3, v4, v5, v6 => c_X0_addRows_25 v0 v1 v2 (b_X0_addRows_25 v0 v1 v2 n) h v3 v4 v5 v6
def b_X0_addRows_0 (v0 : Nat) (v1 : Nat) (v2 : Int32) (h : HP) : Option (HP) :=
  (gR 0 1 h v0).bind fun x1 => (aR 3 h x1 v2).bind fun x2 => (f_X6_lastAt h v1 v2).bind fun y3 => (f_X6_firstAt h v1 v2).bind fun y4 => b_X0_addRows_25 v0 v1 v2 FU h x2 y3 y4 y4
def f_X0_addRows (h : HP) (v0 : Nat) (v1 : Nat) (v2 : Int32) : Option (HP) := (kO 0 h v0).bind fun _ => b_X0_addRows_0 v0 v1 v2 h
theorem w_X0_addRows_68 {l : Launch} {X : SCR} {Q : PST} {bc bs : Nat} {res : HP} {h : HP} (hQ : ∀ sz', Q (.inl none) res sz') {v0 : Nat} {v1 : Nat} {v2 : Int32} {k25 : HP → Nat → Int32 → Int32 → Int32 → Option (HP)} (hk25 : ∀ (h : HP) (v3 : Nat) (v4 : Int32) (v5 : Int32) (v6 : Int32) (sz : Nat), k25 h v3 v4 v5 v6 = some res → SP l X M_X0_addRows 25 [(0, .ref v0), (1, .ref v1), (2, .int v2), (3, .ref v3), (4, .int v4), (5, .int v5), (6, .int v6)] [] h sz bc bs Q) {v3 : Nat} {v4 : Int32} {v5 : Int32} {v6 : Int32} {sz : Nat} (hf : b_X0_addRows_68 v0 v1 v2 k25 h v3 v4 v5 v6 = some res) : SP l X M_X0_addRows 68 [(0, .ref v0), (1, .ref v1), (2, .int v2), (3, .ref v3), (4, .int v4), (5, .int v5), (6, .int v6)] [] h sz bc bs Q := by
  rw [b_X0_addRows_68] at hf
  refine sp_aload_n (pc := 68) dX0_addRows_68 0 rfl ?_
  obtain ⟨x1, ex1, hf⟩ := ob hf
  refine sp_gR (pc := 69) fl_RX0_14 dX0_addRows_69 ex1 ?_
  refine sp_aload_n (pc := 72) dX0_addRows_72 1 rfl ?_
  refine sp_iload_n (pc := 73) dX0_addRows_73 2 rfl ?_
  obtain ⟨y2, ey2, hf⟩ := ob hf
  obtain ⟨fsy2, hoy2⟩ := o_X6_numberAt ey2
  refine sp_callVi (pc := 74) (z := M_X6_numberAt) (As := [.int v2]) (b := v1) (bc2 := bc) (bs2 := bs) (m_X6_numberAt (Q := _) (fun sz => ⟨y2, rfl, ?_⟩) ey2) rfl dX0_addRows_74 hoy2 rfl rfl ck_X0_addRows_71 (Nat.le_of_ble_eq_true rfl) rfl rfl rfl
  refine sp_iload (pc := 77) dX0_addRows_77 5 rfl ?_
  refine sp_iload (pc := 79) dX0_addRows_79 6 rfl ?_
  refine sp_aload_n (pc := 81) dX0_addRows_81 1 rfl ?_
  refine sp_iload_n (pc := 82) dX0_addRows_82 2 rfl ?_
  obtain ⟨y3, ey3, hf⟩ := ob hf
  obtain ⟨fsy3, hoy3⟩ := o_X6_valueAt ey3
  refine sp_callVi (pc := 83) (z := M_X6_valueAt) (As := [.int v2]) (b := v1) (bc2 := bc) (bs2 := bs) (m_X6_valueAt (Q := _) (fun sz => ⟨y3, rfl, ?_⟩) ey3) rfl dX0_addRows_83 hoy3 rfl rfl ck_X0_addRows_105 (Nat.le_of_ble_eq_true rfl) rfl rfl rfl
  obtain ⟨y4, ey4, hf⟩ := ob hf
  obtain ⟨fsy4, hoy4⟩ := o_X6_add ey4
  refine sp_callVv (pc := 86) (z := M_X6_add) (As := [.int y2, .int v5, .int v6, .int y3]) (b := x1) (bc2 := bc) (bs2 := bs) (m_X6_add (Q := _) (fun sz => ⟨(), rfl, ?_⟩) ey4) rfl dX0_addRows_86 hoy4 rfl rfl ck_X0_addRows_108 (Nat.le_of_ble_eq_true rfl) rfl rfl rfl
  refine sp_iinc (pc := 89) (v := v6 + 1) (lv' := [(6, .int (v6 + 1)), (0, .ref v0), (1, .ref v1), (2, .int v2), (3, .ref v3), (4, .int v4), (5, .int v5)]) dX0_addRows_89 6 rfl rfl (by decide) rfl ?_
  refine sp_goto (pc := 92) (tgt := 25) dX0_addRows_92 (by decide) ?_
  exact sp_sub [1, 2, 3, 4, 5, 6, 0] rfl (hk25 _ _ _ _ _ _ hf)

theorem wc_X0_addRows_25 {l : Launch} {X : SCR} {Q : PST} {bc bs : Nat} {res : HP} (hQ : ∀ sz', Q (.inl none) res sz') {v0 : Nat} {v1 : Nat} {v2 : Int32} {k25 : HP → Nat → Int32 → Int32 → Int32 → Option (HP)} (hk25 : ∀ (h : HP) (v3 : Nat) (v4 : Int32) (v5 : Int32) (v6 : Int32) (sz : Nat), k25 h v3 v4 v5 v6 = some res → SP l X M_X0_addRows 25 [(0, .ref v0), (1, .ref v1), (2, .int v2), (3, .ref v3), (4, .int v4), (5, .int v5), (6, .int v6)] [] h sz bc bs Q) {h : HP} {v3 : Nat} {v4 : Int32} {v5 : Int32} {v6 : Int32} {sz : Nat} (hf : c_X0_addRows_25 v0 v1 v2 k25 h v3 v4 v5 v6 = some res) : SP l X M_X0_addRows 25 [(0, .ref v0), (1, .ref v1), (2, .int v2), (3, .ref v3), (4, .int v4), (5, .int v5), (6, .int v6)] [] h sz bc bs Q := by
  rw [c_X0_addRows_25] at hf
  refine sp_iload (pc := 25) dX0_addRows_25 6 rfl ?_
  refine sp_iload (pc := 27) dX0_addRows_27 4 rfl ?_
  refine sp_icmp_gt (pc := 29) (tgt := 95) dX0_addRows_29 (by decide) (fun c1 => ?_) (fun c1 => ?_)
  · rw [if_pos c1] at hf
    obtain rfl := Option.some.inj hf
    exact sp_return (pc := 95) dX0_addRows_95 rfl (hQ _)
  · rw [if_neg c1] at hf
    refine sp_aload_n (pc := 32) dX0_addRows_32 3 rfl ?_
    refine sp_iload (pc := 33) dX0_addRows_33 6 rfl ?_
    obtain ⟨y2, ey2, hf⟩ := ob hf
    obtain ⟨fsy2, hoy2⟩ := o_X2_has ey2
    refine sp_callVi (pc := 35) (z := M_X2_has) (As := [.int v6]) (b := v3) (bc2 := bc) (bs2 := bs) (m_X2_has (Q := _) (fun sz => ⟨y2, rfl, ?_⟩) ey2) rfl dX0_addRows_35 hoy2 rfl rfl ck_X0_addRows_102 (Nat.le_of_ble_eq_true rfl) rfl rfl rfl
    refine sp_if_ne (pc := 38) (tgt := 50) dX0_addRows_38 (by decide) (fun c3 => ?_) (fun c3 => ?_)
    · rw [if_neg c3] at hf
      refine sp_iload (pc := 50) dX0_addRows_50 6 rfl ?_
      refine sp_iload (pc := 52) dX0_addRows_52 4 rfl ?_
      refine sp_icmp_eq (pc := 54) (tgt := 68) dX0_addRows_54 (by decide) (fun c4 => ?_) (fun c4 => ?_)
      · rw [if_pos c4] at hf
        exact (w_X0_addRows_68 hQ hk25 hf)
      · rw [if_neg c4] at hf
        refine sp_aload_n (pc := 57) dX0_addRows_57 3 rfl ?_
        refine sp_iload (pc := 58) dX0_addRows_58 6 rfl ?_
        refine sp_iconst (pc := 60) (v := 1) dX0_addRows_60 (by decide) ?_
        refine sp_iadd (pc := 61) dX0_addRows_61 ?_
        obtain ⟨y5, ey5, hf⟩ := ob hf
        obtain ⟨fsy5, hoy5⟩ := o_X2_has ey5
        refine sp_callVi (pc := 62) (z := M_X2_has) (As := [.int (v6 + 1)]) (b := v3) (bc2 := bc) (bs2 := bs) (m_X2_has (Q := _) (fun sz => ⟨y5, rfl, ?_⟩) ey5) rfl dX0_addRows_62 hoy5 rfl rfl ck_X0_addRows_102 (Nat.le_of_ble_eq_true rfl) rfl rfl rfl
        refine sp_if_ne (pc := 65) (tgt := 89) dX0_addRows_65 (by decide) (fun c6 => ?_) (fun c6 => ?_)
        · rw [if_neg c6] at hf
          refine sp_iinc (pc := 89) (v := v6 + 1) (lv' := [(6, .int (v6 + 1)), (0, .ref v0), (1, .ref v1), (2, .int v2), (3, .ref v3), (4, .int v4), (5, .int v5)]) dX0_addRows_89 6 rfl rfl (by decide) rfl ?_
          refine sp_goto (pc := 92) (tgt := 25) dX0_addRows_92 (by decide) ?_
          exact sp_sub [1, 2, 3, 4, 5, 6, 0] rfl (hk25 _ _ _ _ _ _ hf)
        · rw [if_pos c6] at hf
          exact (w_X0_addRows_68 hQ hk25 hf)
    · rw [if_pos c3] at hf
      refine sp_iload (pc := 41) dX0_addRows_41 6 rfl ?_
      refine sp_iconst (pc := 43) (v := 1) dX0_addRows_43 (by decide) ?_
      refine sp_iadd (pc := 44) dX0_addRows_44 ?_
      refine sp_istore (pc := 45) (lv' := [(5, .int (v6 + 1)), (0, .ref v0), (1, .ref v1), (2, .int v2), (3, .ref v3), (4, .int v4), (6, .int v6)]) dX0_addRows_45 (by decide) rfl ?_
      refine sp_goto (pc := 47) (tgt := 89) dX0_addRows_47 (by decide) ?_
      refine sp_iinc (pc := 89) (v := v6 + 1) (lv' := [(6, .int (v6 + 1)), (5, .int (v6 + 1)), (0, .ref v0), (1, .ref v1), (2, .int v2), (3, .ref v3), (4, .int v4)]) dX0_addRows_89 6 rfl rfl (by decide) rfl ?_
      refine sp_goto (pc := 92) (tgt := 25) dX0_addRows_92 (by decide) ?_
      exact sp_sub [2, 3, 4, 5, 6, 1, 0] rfl (hk25 _ _ _ _ _ _ hf)

theorem w_X0_addRows_25 {l : Launch} {X : SCR} {Q : PST} {bc bs : Nat} {res : HP} (hQ : ∀ sz', Q (.inl none) res sz') {v0 : Nat} {v1 : Nat} {v2 : Int32} : ∀ (n : Nat) {h : HP} {v3 : Nat} {v4 : Int32} {v5 : Int32} {v6 : Int32} {sz : Nat}, b_X0_addRows_25 v0 v1 v2 n h v3 v4 v5 v6 = some res → SP l X M_X0_addRows 25 [(0, .ref v0), (1, .ref v1), (2, .int v2), (3, .ref v3), (4, .int v4), (5, .int v5), (6, .int v6)] [] h sz bc bs Q := by
  intro n
  induction n with
  | zero =>
    intro h v3 v4 v5 v6 sz hf
    rw [b_X0_addRows_25] at hf
    cases hf
  | succ n ih =>
    intro h v3 v4 v5 v6 sz hf
    rw [b_X0_addRows_25] at hf
    exact wc_X0_addRows_25 hQ (fun h v3 v4 v5 v6 sz hf => ih hf) hf

theorem w_X0_addRows_0 {l : Launch} {X : SCR} {Q : PST} {bc bs : Nat} {res : HP} {h : HP} (hQ : ∀ sz', Q (.inl none) res sz') {v0 : Nat} {v1 : Nat} {v2 : Int32} {sz : Nat} (hf : b_X0_addRows_0 v0 v1 v2 h  = some res) : SP l X M_X0_addRows 0 [(0, .ref v0), (1, .ref v1), (2, .int v2)] [] h sz bc bs Q := by
  rw [b_X0_addRows_0] at hf
  refine sp_aload_n (pc := 0) dX0_addRows_0 0 rfl ?_
  obtain ⟨x1, ex1, hf⟩ := ob hf
  refine sp_gR (pc := 1) fl_RX0_22 dX0_addRows_1 ex1 ?_
  refine sp_iload_n (pc := 4) dX0_addRows_4 2 rfl ?_
  obtain ⟨x2, ex2, hf⟩ := ob hf
  refine sp_aR3 (pc := 5) dX0_addRows_5 ex2 ?_
  refine sp_astore_n (pc := 6) (lv' := [(3, .ref x2), (0, .ref v0), (1, .ref v1), (2, .int v2)]) dX0_addRows_6 (by decide) rfl ?_
  refine sp_aload_n (pc := 7) dX0_addRows_7 2 rfl ?_
  refine sp_iload_n (pc := 8) dX0_addRows_8 3 rfl ?_
  obtain ⟨y3, ey3, hf⟩ := ob hf
  obtain ⟨fsy3, hoy3⟩ := o_X6_lastAt ey3
  refine sp_callVi (pc := 9) (z := M_X6_lastAt) (As := [.int v2]) (b := v1) (bc2 := bc) (bs2 := bs) (m_X6_lastAt (Q := _) (fun sz => ⟨y3, rfl, ?_⟩) ey3) rfl dX0_addRows_9 hoy3 rfl rfl ck_X0_addRows_81 (Nat.le_of_ble_eq_true rfl) rfl rfl rfl
  refine sp_istore (pc := 12) (lv' := [(4, .int y3), (3, .ref x2), (0, .ref v0), (1, .ref v1), (2, .int v2)]) dX0_addRows_12 (by decide) rfl ?_
  refine sp_aload_n (pc := 14) dX0_addRows_14 3 rfl ?_
  refine sp_iload_n (pc := 15) dX0_addRows_15 4 rfl ?_
  obtain ⟨y4, ey4, hf⟩ := ob hf
  obtain ⟨fsy4, hoy4⟩ := o_X6_firstAt ey4
  refine sp_callVi (pc := 16) (z := M_X6_firstAt) (As := [.int v2]) (b := v1) (bc2 := bc) (bs2 := bs) (m_X6_firstAt (Q := _) (fun sz => ⟨y4, rfl, ?_⟩) ey4) rfl dX0_addRows_16 hoy4 rfl rfl ck_X0_addRows_78 (Nat.le_of_ble_eq_true rfl) rfl rfl rfl
  refine sp_istore (pc := 19) (lv' := [(5, .int y4), (4, .int y3), (3, .ref x2), (0, .ref v0), (1, .ref v1), (2, .int v2)]) dX0_addRows_19 (by decide) rfl ?_
  refine sp_iload (pc := 21) dX0_addRows_21 0 rfl ?_
  refine sp_istore (pc := 23) (lv' := [(6, .int y4), (5, .int y4), (4, .int y3), (3, .ref x2), (0, .ref v0), (1, .ref v1), (2, .int v2)]) dX0_addRows_23 (by decide) rfl ?_
  exact sp_sub [4, 5, 6, 3, 2, 1, 0] rfl (w_X0_addRows_25 hQ FU hf)

theorem o_X0_addRows {h : HP} {v0 : Nat} {v1 : Nat} {v2 : Int32} {res : HP} (hf : f_X0_addRows h v0 v1 v2 = some res) : ∃ fs, h v0 = some (.inr (0, fs)) := by
  obtain ⟨u, eu, -⟩ := ob hf
  exact kO_spec eu

theorem m_X0_addRows {l : Launch} {Q : PST} {h : HP} {v0 : Nat} {v1 : Nat} {v2 : Int32} {sz : Nat} {res : HP} (hQ : ∀ sz', Q (.inl none) res sz') (hf : f_X0_addRows h v0 v1 v2 = some res) : MM l M_X0_addRows [.ref v0, .ref v1, .int v2] h sz Q := by
  obtain ⟨u, eu, hf⟩ := ob hf
  exact MM_of wok_X0_addRows (by decide +kernel) (Nat.le_of_ble_eq_true rfl) ((w_X0_addRows_0 hQ hf))

theorem dX0_clean_0 : decode (mB M_X0_clean) 0 = .ok (.aload_n 0, 1) := by decide +kernel
theorem dX0_clean_1 : decode (mB M_X0_clean) 1 = .ok (.getfield 14, 3) := by decide +kernel
theorem dX0_clean_4 : decode (mB M_X0_clean) 4 = .ok (.invokevirtual 37, 3) := by decide +kernel
theorem dX0_clean_7 : decode (mB M_X0_clean) 7 = .ok (.aload_n 1, 1) := by decide +kernel
theorem dX0_clean_8 : decode (mB M_X0_clean) 8 = .ok (.iload_n 3, 1) := by decide +kernel
theorem dX0_clean_9 : decode (mB M_X0_clean) 9 = .ok (.invokevirtual 40, 3) := by decide +kernel
theorem dX0_clean_12 : decode (mB M_X0_clean) 12 = .ok (.istore 4, 2) := by decide +kernel
theorem dX0_clean_14 : decode (mB M_X0_clean) 14 = .ok (.aload_n 1, 1) := by decide +kernel
theorem dX0_clean_15 : decode (mB M_X0_clean) 15 = .ok (.iload_n 2, 1) := by decide +kernel
theorem dX0_clean_16 : decode (mB M_X0_clean) 16 = .ok (.invokevirtual 46, 3) := by decide +kernel
theorem dX0_clean_19 : decode (mB M_X0_clean) 19 = .ok (.istore 5, 2) := by decide +kernel
theorem dX0_clean_21 : decode (mB M_X0_clean) 21 = .ok (.iload 4, 2) := by decide +kernel
theorem dX0_clean_23 : decode (mB M_X0_clean) 23 = .ok (.ifCond .lt 13, 3) := by decide +kernel
theorem dX0_clean_26 : decode (mB M_X0_clean) 26 = .ok (.iload 5, 2) := by decide +kernel
theorem dX0_clean_28 : decode (mB M_X0_clean) 28 = .ok (.aload_n 0, 1) := by decide +kernel
theorem dX0_clean_29 : decode (mB M_X0_clean) 29 = .ok (.getfield 22, 3) := by decide +kernel
theorem dX0_clean_32 : decode (mB M_X0_clean) 32 = .ok (.arraylength, 1) := by decide +kernel
theorem dX0_clean_33 : decode (mB M_X0_clean) 33 = .ok (.if_icmp .le 5, 3) := by decide +kernel
theorem dX0_clean_36 : decode (mB M_X0_clean) 36 = .ok (.iconst 0, 1) := by decide +kernel
theorem dX0_clean_37 : decode (mB M_X0_clean) 37 = .ok (.ireturn, 1) := by decide +kernel
theorem dX0_clean_38 : decode (mB M_X0_clean) 38 = .ok (.aload_n 0, 1) := by decide +kernel
theorem dX0_clean_39 : decode (mB M_X0_clean) 39 = .ok (.aload_n 1, 1) := by decide +kernel
theorem dX0_clean_40 : decode (mB M_X0_clean) 40 = .ok (.iload 4, 2) := by decide +kernel
theorem dX0_clean_42 : decode (mB M_X0_clean) 42 = .ok (.iload 5, 2) := by decide +kernel
theorem dX0_clean_44 : decode (mB M_X0_clean) 44 = .ok (.invokevirtual 49, 3) := by decide +kernel
theorem dX0_clean_47 : decode (mB M_X0_clean) 47 = .ok (.iload_n 3, 1) := by decide +kernel
theorem dX0_clean_48 : decode (mB M_X0_clean) 48 = .ok (.aload_n 1, 1) := by decide +kernel
theorem dX0_clean_49 : decode (mB M_X0_clean) 49 = .ok (.invokevirtual 53, 3) := by decide +kernel
theorem dX0_clean_52 : decode (mB M_X0_clean) 52 = .ok (.iconst 1, 1) := by decide +kernel
theorem dX0_clean_53 : decode (mB M_X0_clean) 53 = .ok (.isub, 1) := by decide +kernel
theorem dX0_clean_54 : decode (mB M_X0_clean) 54 = .ok (.if_icmp .ne 15, 3) := by decide +kernel
theorem dX0_clean_57 : decode (mB M_X0_clean) 57 = .ok (.aload_n 0, 1) := by decide +kernel
theorem dX0_clean_58 : decode (mB M_X0_clean) 58 = .ok (.aload_n 1, 1) := by decide +kernel
theorem dX0_clean_59 : decode (mB M_X0_clean) 59 = .ok (.getfield 57, 3) := by decide +kernel
theorem dX0_clean_62 : decode (mB M_X0_clean) 62 = .ok (.iload 4, 2) := by decide +kernel
theorem dX0_clean_64 : decode (mB M_X0_clean) 64 = .ok (.iload 5, 2) := by decide +kernel
theorem dX0_clean_66 : decode (mB M_X0_clean) 66 = .ok (.invokevirtual 60, 3) := by decide +kernel
theorem dX0_clean_69 : decode (mB M_X0_clean) 69 = .ok (.iload 4, 2) := by decide +kernel
theorem dX0_clean_71 : decode (mB M_X0_clean) 71 = .ok (.istore 6, 2) := by decide +kernel
theorem dX0_clean_73 : decode (mB M_X0_clean) 73 = .ok (.iload 6, 2) := by decide +kernel
theorem dX0_clean_75 : decode (mB M_X0_clean) 75 = .ok (.iload 5, 2) := by decide +kernel
theorem dX0_clean_77 : decode (mB M_X0_clean) 77 = .ok (.if_icmp .ge 19, 3) := by decide +kernel
theorem dX0_clean_80 : decode (mB M_X0_clean) 80 = .ok (.aload_n 0, 1) := by decide +kernel
theorem dX0_clean_81 : decode (mB M_X0_clean) 81 = .ok (.aload_n 1, 1) := by decide +kernel
theorem dX0_clean_82 : decode (mB M_X0_clean) 82 = .ok (.getfield 57, 3) := by decide +kernel
theorem dX0_clean_85 : decode (mB M_X0_clean) 85 = .ok (.iload 6, 2) := by decide +kernel
theorem dX0_clean_87 : decode (mB M_X0_clean) 87 = .ok (.invokevirtual 64, 3) := by decide +kernel
theorem dX0_clean_90 : decode (mB M_X0_clean) 90 = .ok (.iinc 6 1, 3) := by decide +kernel
theorem dX0_clean_93 : decode (mB M_X0_clean) 93 = .ok (.goto (-20), 3) := by decide +kernel
theorem dX0_clean_96 : decode (mB M_X0_clean) 96 = .ok (.aload_n 0, 1) := by decide +kernel
theorem dX0_clean_97 : decode (mB M_X0_clean) 97 = .ok (.getfield 14, 3) := by decide +kernel
theorem dX0_clean_100 : decode (mB M_X0_clean) 100 = .ok (.invokevirtual 68, 3) := by decide +kernel
theorem dX0_clean_103 : decode (mB M_X0_clean) 103 = .ok (.ireturn, 1) := by decide +kernel
def c_X0_clean_73 (v0 : Nat) (v1 : Nat) (k73 : HP → Int32 → Int32 → Option (Int32 × HP)) (h : HP) (v5 : Int32) (v6 : Int32) : Option (Int32 × HP) :=
  if v5 ≤ v6 then (gR 0 0 h v0).bind fun x2 => (f_X6_size h x2).bind fun y3 => some (y3, h) else (gR 3 1 h v1).bind fun x4 => (f_X0_addRows h v0 x4 v6).bind fun y5 => k73 y5 v5 (v6 + 1)
def b_X0_clean_73 (v0 : Nat) (v1 : Nat) : Nat → HP → Int32 → Int32 → Option (Int32 × HP)
  | 0, _, _, _ => none
  | n + 1, h, v5, v6 => c_X0_clean_73 v0 v1 (b_X0_clean_73 v0 v1 n) h v5 v6
def b_X0_clean_0 (v0 : Nat) (v1 : Nat) (v2 : Int32) (v3 : Int32) (h : HP) : Option (Int32 × HP) :=
  (gR 0 0 h v0).bind fun x1 => (f_X6_empty h x1).bind fun y2 => (f_X3_startOf y2 v1 v3).bind fun y3 => (f_X3_endOf y2 v1 v2).bind fun y4 => if y3 < 0 then some (0, y2) else (gR 0 1 y2 v0).bind fun x6 => (aN y2 x6).bind fun x7 => if y4 ≤ x7 then (f_X0_dropHidden y2 v0 v1 y3 y4).bind fun y9 => (f_X3_runs y9 v1).bind fun y10 => if v3 = (y10 - 1) then (gR 3 1 y9 v1).bind fun x12 => (f_X0_dropNeedless y9 v0 x12 y3 y4).bind fun y13 => b_X0_clean_73 v0 v1 FU y13 y4 y3 else b_X0_clean_73 v0 v1 FU y9 y4 y3 else some (0, y2)
def f_X0_clean (h : HP) (v0 : Nat) (v1 : Nat) (v2 : Int32) (v3 : Int32) : Option (Int32 × HP) := (kO 0 h v0).bind fun _ => b_X0_clean_0 v0 v1 v2 v3 h
theorem wc_X0_clean_73 {l : Launch} {X : SCR} {Q : PST} {bc bs : Nat} {res : Int32 × HP} (hQ : ∀ sz', Q (.inl (some (.int res.1))) res.2 sz') {v0 : Nat} {v1 : Nat} {k73 : HP → Int32 → Int32 → Option (Int32 × HP)} (hk73 : ∀ (h : HP) (v5 : Int32) (v6 : Int32) (sz : Nat), k73 h v5 v6 = some res → SP l X M_X0_clean 73 [(0, .ref v0), (1, .ref v1), (5, .int v5), (6, .int v6)] [] h sz bc bs Q) {h : HP} {v5 : Int32} {v6 : Int32} {sz : Nat} (hf : c_X0_clean_73 v0 v1 k73 h v5 v6 = some res) : SP l X M_X0_clean 73 [(0, .ref v0), (1, .ref v1), (5, .int v5), (6, .int v6)] [] h sz bc bs Q := by
  rw [c_X0_clean_73] at hf
  refine sp_iload (pc := 73) dX0_clean_73 3 rfl ?_
  refine sp_iload (pc := 75) dX0_clean_75 2 rfl ?_
  refine sp_icmp_ge (pc := 77) (tgt := 96) dX0_clean_77 (by decide) (fun c1 => ?_) (fun c1 => ?_)
  · rw [if_pos c1] at hf
    refine sp_aload_n (pc := 96) dX0_clean_96 0 rfl ?_
    obtain ⟨x2, ex2, hf⟩ := ob hf
    refine sp_gR (pc := 97) fl_RX0_14 dX0_clean_97 ex2 ?_
    obtain ⟨y3, ey3, hf⟩ := ob hf
    obtain ⟨fsy3, hoy3⟩ := o_X6_size ey3
    refine sp_callVi (pc := 100) (z := M_X6_size) (As := []) (b := x2) (bc2 := bc) (bs2 := bs) (m_X6_size (Q := _) (fun sz => ⟨y3, rfl, ?_⟩) ey3) rfl dX0_clean_100 hoy3 rfl rfl ck_X0_clean_68 (Nat.le_of_ble_eq_true rfl) rfl rfl rfl
    obtain rfl := Option.some.inj hf
    exact sp_ireturn (pc := 103) dX0_clean_103 rfl rfl (hQ _)
  · rw [if_neg c1] at hf
    refine sp_aload_n (pc := 80) dX0_clean_80 0 rfl ?_
    refine sp_aload_n (pc := 81) dX0_clean_81 1 rfl ?_
    obtain ⟨x4, ex4, hf⟩ := ob hf
    refine sp_gR (pc := 82) fl_RX0_57 dX0_clean_82 ex4 ?_
    refine sp_iload (pc := 85) dX0_clean_85 3 rfl ?_
    obtain ⟨y5, ey5, hf⟩ := ob hf
    obtain ⟨fsy5, hoy5⟩ := o_X0_addRows ey5
    refine sp_callVv (pc := 87) (z := M_X0_addRows) (As := [.ref x4, .int v6]) (b := v0) (bc2 := bc) (bs2 := bs) (m_X0_addRows (Q := _) (fun sz => ⟨(), rfl, ?_⟩) ey5) rfl dX0_clean_87 hoy5 rfl rfl ck_X0_clean_64 (Nat.le_of_ble_eq_true rfl) rfl rfl rfl
    refine sp_iinc (pc := 90) (v := v6 + 1) (lv' := [(6, .int (v6 + 1)), (0, .ref v0), (1, .ref v1), (5, .int v5)]) dX0_clean_90 3 rfl rfl (by decide) rfl ?_
    refine sp_goto (pc := 93) (tgt := 73) dX0_clean_93 (by decide) ?_
    exact sp_sub [1, 2, 3, 0] rfl (hk73 _ _ _ _ hf)

theorem w_X0_clean_73 {l : Launch} {X : SCR} {Q : PST} {bc bs : Nat} {res : Int32 × HP} (hQ : ∀ sz', Q (.inl (some (.int res.1))) res.2 sz') {v0 : Nat} {v1 : Nat} : ∀ (n : Nat) {h : HP} {v5 : Int32} {v6 : Int32} {sz : Nat}, b_X0_clean_73 v0 v1 n h v5 v6 = some res → SP l X M_X0_clean 73 [(0, .ref v0), (1, .ref v1), (5, .int v5), (6, .int v6)] [] h sz bc bs Q := by
  intro n
  induction n with
  | zero =>
    intro h v5 v6 sz hf
    rw [b_X0_clean_73] at hf
    cases hf
  | succ n ih =>
    intro h v5 v6 sz hf
    rw [b_X0_clean_73] at hf
    exact wc_X0_clean_73 hQ (fun h v5 v6 sz hf => ih hf) hf

theorem w_X0_clean_0 {l : Launch} {X : SCR} {Q : PST} {bc bs : Nat} {res : Int32 × HP} {h : HP} (hQ : ∀ sz', Q (.inl (some (.int res.1))) res.2 sz') {v0 : Nat} {v1 : Nat} {v2 : Int32} {v3 : Int32} {sz : Nat} (hf : b_X0_clean_0 v0 v1 v2 v3 h  = some res) : SP l X M_X0_clean 0 [(0, .ref v0), (1, .ref v1), (2, .int v2), (3, .int v3)] [] h sz bc bs Q := by
  rw [b_X0_clean_0] at hf
  refine sp_aload_n (pc := 0) dX0_clean_0 0 rfl ?_
  obtain ⟨x1, ex1, hf⟩ := ob hf
  refine sp_gR (pc := 1) fl_RX0_14 dX0_clean_1 ex1 ?_
  obtain ⟨y2, ey2, hf⟩ := ob hf
  obtain ⟨fsy2, hoy2⟩ := o_X6_empty ey2
  refine sp_callVv (pc := 4) (z := M_X6_empty) (As := []) (b := x1) (bc2 := bc) (bs2 := bs) (m_X6_empty (Q := _) (fun sz => ⟨(), rfl, ?_⟩) ey2) rfl dX0_clean_4 hoy2 rfl rfl ck_X0_clean_37 (Nat.le_of_ble_eq_true rfl) rfl rfl rfl
  refine sp_aload_n (pc := 7) dX0_clean_7 1 rfl ?_
  refine sp_iload_n (pc := 8) dX0_clean_8 3 rfl ?_
  obtain ⟨y3, ey3, hf⟩ := ob hf
  obtain ⟨fsy3, hoy3⟩ := o_X3_startOf ey3
  refine sp_callVi (pc := 9) (z := M_X3_startOf) (As := [.int v3]) (b := v1) (bc2 := bc) (bs2 := bs) (m_X3_startOf (Q := _) (fun sz => ⟨y3, rfl, ?_⟩) ey3) rfl dX0_clean_9 hoy3 rfl rfl ck_X0_clean_40 (Nat.le_of_ble_eq_true rfl) rfl rfl rfl
  refine sp_istore (pc := 12) (lv' := [(4, .int y3), (0, .ref v0), (1, .ref v1), (2, .int v2), (3, .int v3)]) dX0_clean_12 (by decide) rfl ?_
  refine sp_aload_n (pc := 14) dX0_clean_14 2 rfl ?_
  refine sp_iload_n (pc := 15) dX0_clean_15 3 rfl ?_
  obtain ⟨y4, ey4, hf⟩ := ob hf
  obtain ⟨fsy4, hoy4⟩ := o_X3_endOf ey4
  refine sp_callVi (pc := 16) (z := M_X3_endOf) (As := [.int v2]) (b := v1) (bc2 := bc) (bs2 := bs) (m_X3_endOf (Q := _) (fun sz => ⟨y4, rfl, ?_⟩) ey4) rfl dX0_clean_16 hoy4 rfl rfl ck_X0_clean_46 (Nat.le_of_ble_eq_true rfl) rfl rfl rfl
  refine sp_istore (pc := 19) (lv' := [(5, .int y4), (4, .int y3), (0, .ref v0), (1, .ref v1), (2, .int v2), (3, .int v3)]) dX0_clean_19 (by decide) rfl ?_
  refine sp_iload (pc := 21) dX0_clean_21 1 rfl ?_
  refine sp_if_lt (pc := 23) (tgt := 36) dX0_clean_23 (by decide) (fun c5 => ?_) (fun c5 => ?_)
  · rw [if_pos c5] at hf
    refine sp_iconst (pc := 36) (v := 0) dX0_clean_36 (by decide) ?_
    obtain rfl := Option.some.inj hf
    exact sp_ireturn (pc := 37) dX0_clean_37 rfl rfl (hQ _)
  · rw [if_neg c5] at hf
    refine sp_iload (pc := 26) dX0_clean_26 0 rfl ?_
    refine sp_aload_n (pc := 28) dX0_clean_28 2 rfl ?_
    obtain ⟨x6, ex6, hf⟩ := ob hf
    refine sp_gR (pc := 29) fl_RX0_22 dX0_clean_29 ex6 ?_
    obtain ⟨x7, ex7, hf⟩ := ob hf
    refine sp_aN (pc := 32) dX0_clean_32 ex7 ?_
    refine sp_icmp_le (pc := 33) (tgt := 38) dX0_clean_33 (by decide) (fun c8 => ?_) (fun c8 => ?_)
    · rw [if_pos c8] at hf
      refine sp_aload_n (pc := 38) dX0_clean_38 2 rfl ?_
      refine sp_aload_n (pc := 39) dX0_clean_39 3 rfl ?_
      refine sp_iload (pc := 40) dX0_clean_40 1 rfl ?_
      refine sp_iload (pc := 42) dX0_clean_42 0 rfl ?_
      obtain ⟨y9, ey9, hf⟩ := ob hf
      obtain ⟨fsy9, hoy9⟩ := o_X0_dropHidden ey9
      refine sp_callVv (pc := 44) (z := M_X0_dropHidden) (As := [.ref v1, .int y3, .int y4]) (b := v0) (bc2 := bc) (bs2 := bs) (m_X0_dropHidden (Q := _) (fun sz => ⟨(), rfl, ?_⟩) ey9) rfl dX0_clean_44 hoy9 rfl rfl ck_X0_clean_49 (Nat.le_of_ble_eq_true rfl) rfl rfl rfl
      refine sp_iload_n (pc := 47) dX0_clean_47 5 rfl ?_
      refine sp_aload_n (pc := 48) dX0_clean_48 3 rfl ?_
      obtain ⟨y10, ey10, hf⟩ := ob hf
      obtain ⟨fsy10, hoy10⟩ := o_X3_runs ey10
      refine sp_callVi (pc := 49) (z := M_X3_runs) (As := []) (b := v1) (bc2 := bc) (bs2 := bs) (m_X3_runs (Q := _) (fun sz => ⟨y10, rfl, ?_⟩) ey10) rfl dX0_clean_49 hoy10 rfl rfl ck_X0_clean_53 (Nat.le_of_ble_eq_true rfl) rfl rfl rfl
      refine sp_iconst (pc := 52) (v := 1) dX0_clean_52 (by decide) ?_
      refine sp_isub (pc := 53) dX0_clean_53 ?_
      refine sp_icmp_ne (pc := 54) (tgt := 69) dX0_clean_54 (by decide) (fun c11 => ?_) (fun c11 => ?_)
      · rw [if_neg c11] at hf
        refine sp_iload (pc := 69) dX0_clean_69 1 rfl ?_
        refine sp_istore (pc := 71) (lv' := [(6, .int y3), (5, .int y4), (4, .int y3), (0, .ref v0), (1, .ref v1), (2, .int v2), (3, .int v3)]) dX0_clean_71 (by decide) rfl ?_
        exact sp_sub [3, 4, 1, 0] rfl (w_X0_clean_73 hQ FU hf)
      · rw [if_pos c11] at hf
        refine sp_aload_n (pc := 57) dX0_clean_57 2 rfl ?_
        refine sp_aload_n (pc := 58) dX0_clean_58 3 rfl ?_
        obtain ⟨x12, ex12, hf⟩ := ob hf
        refine sp_gR (pc := 59) fl_RX0_57 dX0_clean_59 ex12 ?_
        refine sp_iload (pc := 62) dX0_clean_62 1 rfl ?_
        refine sp_iload (pc := 64) dX0_clean_64 0 rfl ?_
        obtain ⟨y13, ey13, hf⟩ := ob hf
        obtain ⟨fsy13, hoy13⟩ := o_X0_dropNeedless ey13
        refine sp_callVv (pc := 66) (z := M_X0_dropNeedless) (As := [.ref x12, .int y3, .int y4]) (b := v0) (bc2 := bc) (bs2 := bs) (m_X0_dropNeedless (Q := _) (fun sz => ⟨(), rfl, ?_⟩) ey13) rfl dX0_clean_66 hoy13 rfl rfl ck_X0_clean_60 (Nat.le_of_ble_eq_true rfl) rfl rfl rfl
        refine sp_iload (pc := 69) dX0_clean_69 1 rfl ?_
        refine sp_istore (pc := 71) (lv' := [(6, .int y3), (5, .int y4), (4, .int y3), (0, .ref v0), (1, .ref v1), (2, .int v2), (3, .int v3)]) dX0_clean_71 (by decide) rfl ?_
        exact sp_sub [3, 4, 1, 0] rfl (w_X0_clean_73 hQ FU hf)
    · rw [if_neg c8] at hf
      refine sp_iconst (pc := 36) (v := 0) dX0_clean_36 (by decide) ?_
      obtain rfl := Option.some.inj hf
      exact sp_ireturn (pc := 37) dX0_clean_37 rfl rfl (hQ _)

theorem o_X0_clean {h : HP} {v0 : Nat} {v1 : Nat} {v2 : Int32} {v3 : Int32} {res : Int32 × HP} (hf : f_X0_clean h v0 v1 v2 v3 = some res) : ∃ fs, h v0 = some (.inr (0, fs)) := by
  obtain ⟨u, eu, -⟩ := ob hf
  exact kO_spec eu

theorem m_X0_clean {l : Launch} {Q : PST} {h : HP} {v0 : Nat} {v1 : Nat} {v2 : Int32} {v3 : Int32} {sz : Nat} {res : Int32 × HP} (hQ : ∀ sz', Q (.inl (some (.int res.1))) res.2 sz') (hf : f_X0_clean h v0 v1 v2 v3 = some res) : MM l M_X0_clean [.ref v0, .ref v1, .int v2, .int v3] h sz Q := by
  obtain ⟨u, eu, hf⟩ := ob hf
  exact MM_of wok_X0_clean (by decide +kernel) (Nat.le_of_ble_eq_true rfl) ((w_X0_clean_0 hQ hf))

theorem dX3_init_0 : decode (mB M_X3_init) 0 = .ok (.aload_n 0, 1) := by decide +kernel
theorem dX3_init_1 : decode (mB M_X3_init) 1 = .ok (.invokespecial 3, 3) := by decide +kernel
theorem dX3_init_4 : decode (mB M_X3_init) 4 = .ok (.aload_n 0, 1) := by decide +kernel
theorem dX3_init_5 : decode (mB M_X3_init) 5 = .ok (.bipush 6, 2) := by decide +kernel
theorem dX3_init_7 : decode (mB M_X3_init) 7 = .ok (.newarray .int, 2) := by decide +kernel
theorem dX3_init_9 : decode (mB M_X3_init) 9 = .ok (.putfield 9, 3) := by decide +kernel
theorem dX3_init_12 : decode (mB M_X3_init) 12 = .ok (.aload_n 0, 1) := by decide +kernel
theorem dX3_init_13 : decode (mB M_X3_init) 13 = .ok (.iconst 2, 1) := by decide +kernel
theorem dX3_init_14 : decode (mB M_X3_init) 14 = .ok (.newarray .int, 2) := by decide +kernel
theorem dX3_init_16 : decode (mB M_X3_init) 16 = .ok (.putfield 15, 3) := by decide +kernel
theorem dX3_init_19 : decode (mB M_X3_init) 19 = .ok (.aload_n 0, 1) := by decide +kernel
theorem dX3_init_20 : decode (mB M_X3_init) 20 = .ok (.aload_n 1, 1) := by decide +kernel
theorem dX3_init_21 : decode (mB M_X3_init) 21 = .ok (.putfield 18, 3) := by decide +kernel
theorem dX3_init_24 : decode (mB M_X3_init) 24 = .ok (.aload_n 0, 1) := by decide +kernel
theorem dX3_init_25 : decode (mB M_X3_init) 25 = .ok (.new 22, 3) := by decide +kernel
theorem dX3_init_28 : decode (mB M_X3_init) 28 = .ok (.dup, 1) := by decide +kernel
theorem dX3_init_29 : decode (mB M_X3_init) 29 = .ok (.iload_n 2, 1) := by decide +kernel
theorem dX3_init_30 : decode (mB M_X3_init) 30 = .ok (.invokespecial 24, 3) := by decide +kernel
theorem dX3_init_33 : decode (mB M_X3_init) 33 = .ok (.putfield 27, 3) := by decide +kernel
theorem dX3_init_36 : decode (mB M_X3_init) 36 = .ok (.return_, 1) := by decide +kernel
def b_X3_init_0 (v0 : Nat) (v1 : Nat) (v2 : Int32) (h : HP) (q bc bs : Nat) : Option (HP × Nat) :=
  (alN bc bs 6).bind fun b1 => (nwI h q 6).bind fun h2 => (pR 3 2 h2 v0 q).bind fun h3 => (alN b1.1 b1.2 2).bind fun b4 => (nwI h3 (q + 1) 2).bind fun h5 => (pR 3 3 h5 v0 (q + 1)).bind fun h6 => (pR 3 0 h6 v0 v1).bind fun h7 => (tk b4.1 1).bind fun b9 => (tk b4.2 5).bind fun b10 => (nwO h7 ((q + 1) + 1) 6 [.null, .null, .null, .null, .int 0]).bind fun h8 => (tk b9 4).bind fun b12 => (tk b10 1392).bind fun b13 => (f_X6_init h8 (((q + 1) + 1) + 1) ((q + 1) + 1) v2).bind fun y11 => (pR 3 1 y11.1 v0 ((q + 1) + 1)).bind fun h14 => some (h14, y11.2)
def f_X3_init (h : HP) (q : Nat) (v0 : Nat) (v1 : Nat) (v2 : Int32) : Option (HP × Nat) := b_X3_init_0 v0 v1 v2 h q 7 1405
theorem w_X3_init_0 {l : Launch} {X : SCR} {Q : PST} {res : HP × Nat} {h : HP} {q bc bs : Nat} (hQ : Q (.inl none) res.1 res.2) {v0 : Nat} {v1 : Nat} {v2 : Int32} (hf : b_X3_init_0 v0 v1 v2 h q bc bs  = some res) : SP l X M_X3_init 0 [(0, .ref v0), (1, .ref v1), (2, .int v2)] [] h q bc bs Q := by
  rw [b_X3_init_0] at hf
  refine sp_aload_n (pc := 0) dX3_init_0 0 rfl ?_
  refine sp_objInit (pc := 1) bk_112 bk_30 bk_31 dX3_init_1 (by decide) (Nat.le_of_ble_eq_true rfl) ?_
  refine sp_aload_n (pc := 4) dX3_init_4 0 rfl ?_
  refine sp_bipush (pc := 5) (v := 6) dX3_init_5 (by decide) ?_
  obtain ⟨b1, eb1, hf⟩ := ob hf
  obtain ⟨h2, eh2, hf⟩ := ob hf
  obtain rfl := Option.some.inj eh2
  obtain ⟨g1b1, g2b1, g3b1, g4b1⟩ := alN_spec eb1
  refine sp_newaI (pc := 7) (bc2 := b1.1) (bs2 := b1.2) bk_63 dX3_init_7 g1b1 rfl (Nat.le_trans (Nat.mul_le_mul_left _ (by decide)) g2b1) g3b1 g4b1 (fun hfr => ?_)
  obtain ⟨h3, eh3, hf⟩ := ob hf
  refine sp_pRF (pc := 9) pf_RX3_9 rfl dX3_init_9 rfl rfl eh3 ?_
  refine sp_aload_n (pc := 12) dX3_init_12 0 rfl ?_
  refine sp_iconst (pc := 13) (v := 2) dX3_init_13 (by decide) ?_
  obtain ⟨b4, eb4, hf⟩ := ob hf
  obtain ⟨h5, eh5, hf⟩ := ob hf
  obtain rfl := Option.some.inj eh5
  obtain ⟨g1b4, g2b4, g3b4, g4b4⟩ := alN_spec eb4
  refine sp_newaI (pc := 14) (bc2 := b4.1) (bs2 := b4.2) bk_63 dX3_init_14 g1b4 rfl (Nat.le_trans (Nat.mul_le_mul_left _ (by decide)) g2b4) g3b4 g4b4 (fun hfr => ?_)
  obtain ⟨h6, eh6, hf⟩ := ob hf
  refine sp_pRF (pc := 16) pf_RX3_15 rfl dX3_init_16 rfl rfl eh6 ?_
  refine sp_aload_n (pc := 19) dX3_init_19 0 rfl ?_
  refine sp_aload_n (pc := 20) dX3_init_20 1 rfl ?_
  obtain ⟨h7, eh7, hf⟩ := ob hf
  refine sp_pRF (pc := 21) pf_RX3_18 rfl dX3_init_21 rfl rfl eh7 ?_
  refine sp_aload_n (pc := 24) dX3_init_24 0 rfl ?_
  obtain ⟨b9, eb9, hf⟩ := ob hf
  obtain ⟨b10, eb10, hf⟩ := ob hf
  obtain ⟨h8, eh8, hf⟩ := ob hf
  obtain rfl := Option.some.inj eh8
  refine sp_new (pc := 25) (bc2 := b9) (bs2 := b10) nw_RX3_22 dX3_init_25 (tk_spec eb9) (tk_spec eb10) (fun hfr => ?_)
  refine sp_dup (pc := 28) dX3_init_28 rfl ?_
  refine sp_iload_n (pc := 29) dX3_init_29 2 rfl ?_
  obtain ⟨b12, eb12, hf⟩ := ob hf
  obtain ⟨b13, eb13, hf⟩ := ob hf
  obtain ⟨y11, ey11, hf⟩ := ob hf
  refine sp_callIv (pc := 30) (z := M_X6_init) (As := [.int v2]) (b := ((q + 1) + 1)) (bc2 := b12) (bs2 := b13) (m_X6_init (Q := _) ⟨(), rfl, ?_⟩ ey11) rfl rfl rfl dX3_init_30 rfl ck_X3_init_24 (Nat.le_of_ble_eq_true rfl) (tk_spec eb12) (tk_spec eb13) rfl
  obtain ⟨h14, eh14, hf⟩ := ob hf
  refine sp_pRF (pc := 33) pf_RX3_27 rfl dX3_init_33 rfl rfl eh14 ?_
  obtain rfl := Option.some.inj hf
  exact sp_return (pc := 36) dX3_init_36 rfl hQ

theorem m_X3_init {l : Launch} {Q : PST} {h : HP} {v0 : Nat} {v1 : Nat} {v2 : Int32} {sz : Nat} {res : HP × Nat} (hQ : Q (.inl none) res.1 res.2) (hf : f_X3_init h sz v0 v1 v2 = some res) : MM l M_X3_init [.ref v0, .ref v1, .int v2] h sz Q := by
  rw [f_X3_init] at hf
  exact MM_of wok_X3_init (by decide +kernel) (Nat.le_of_ble_eq_true rfl) ((w_X3_init_0 hQ hf))

theorem dX1_init_0 : decode (mB M_X1_init) 0 = .ok (.aload_n 0, 1) := by decide +kernel
theorem dX1_init_1 : decode (mB M_X1_init) 1 = .ok (.invokespecial 3, 3) := by decide +kernel
theorem dX1_init_4 : decode (mB M_X1_init) 4 = .ok (.aload_n 0, 1) := by decide +kernel
theorem dX1_init_5 : decode (mB M_X1_init) 5 = .ok (.bipush 14, 2) := by decide +kernel
theorem dX1_init_7 : decode (mB M_X1_init) 7 = .ok (.anewarray 9, 3) := by decide +kernel
theorem dX1_init_10 : decode (mB M_X1_init) 10 = .ok (.putfield 11, 3) := by decide +kernel
theorem dX1_init_13 : decode (mB M_X1_init) 13 = .ok (.iconst 0, 1) := by decide +kernel
theorem dX1_init_14 : decode (mB M_X1_init) 14 = .ok (.istore_n 2, 1) := by decide +kernel
theorem dX1_init_15 : decode (mB M_X1_init) 15 = .ok (.iload_n 2, 1) := by decide +kernel
theorem dX1_init_16 : decode (mB M_X1_init) 16 = .ok (.bipush 14, 2) := by decide +kernel
theorem dX1_init_18 : decode (mB M_X1_init) 18 = .ok (.if_icmp .ge 25, 3) := by decide +kernel
theorem dX1_init_21 : decode (mB M_X1_init) 21 = .ok (.aload_n 0, 1) := by decide +kernel
theorem dX1_init_22 : decode (mB M_X1_init) 22 = .ok (.getfield 11, 3) := by decide +kernel
theorem dX1_init_25 : decode (mB M_X1_init) 25 = .ok (.iload_n 2, 1) := by decide +kernel
theorem dX1_init_26 : decode (mB M_X1_init) 26 = .ok (.new 9, 3) := by decide +kernel
theorem dX1_init_29 : decode (mB M_X1_init) 29 = .ok (.dup, 1) := by decide +kernel
theorem dX1_init_30 : decode (mB M_X1_init) 30 = .ok (.aload_n 1, 1) := by decide +kernel
theorem dX1_init_31 : decode (mB M_X1_init) 31 = .ok (.bipush 48, 2) := by decide +kernel
theorem dX1_init_33 : decode (mB M_X1_init) 33 = .ok (.invokespecial 17, 3) := by decide +kernel
theorem dX1_init_36 : decode (mB M_X1_init) 36 = .ok (.aastore, 1) := by decide +kernel
theorem dX1_init_37 : decode (mB M_X1_init) 37 = .ok (.iinc 2 1, 3) := by decide +kernel
theorem dX1_init_40 : decode (mB M_X1_init) 40 = .ok (.goto (-25), 3) := by decide +kernel
theorem dX1_init_43 : decode (mB M_X1_init) 43 = .ok (.return_, 1) := by decide +kernel
def c_X1_init_15 (v0 : Nat) (v1 : Nat) (k15 : HP → Nat → Nat → Nat → Int32 → Option (HP × Nat)) (h : HP) (q bc bs : Nat) (v2 : Int32) : Option (HP × Nat) :=
  if 14 ≤ v2 then some (h, q) else (gR 1 0 h v0).bind fun x2 => (tk bc 1).bind fun b4 => (tk bs 8).bind fun b5 => (nwO h q 3 [.null, .null, .null, .null, .int 0, .int 0, .int 0, .int 0]).bind fun h3 => (tk b4 7).bind fun b7 => (tk b5 1405).bind fun b8 => (f_X3_init h3 (q + 1) q v1 48).bind fun y6 => (wR 4 3 y6.1 x2 v2 q).bind fun h9 => k15 h9 y6.2 b7 b8 (v2 + 1)
def b_X1_init_15 (v0 : Nat) (v1 : Nat) : Nat → HP → Nat → Nat → Nat → Int32 → Option (HP × Nat)
  | 0, _, _, _, _, _ => none
  | n + 1, h, q, bc, bs, v2 => c_X1_init_15 v0 v1 (b_X1_init_15 v0 v1 n) h q bc bs v2
def b_X1_init_0 (v0 : Nat) (v1 : Nat) (h : HP) (q bc bs : Nat) : Option (HP × Nat) :=
  (alN bc bs 14).bind fun b1 => (nwR 4 h q 14).bind fun h2 => (pR 1 0 h2 v0 q).bind fun h3 => b_X1_init_15 v0 v1 FU h3 (q + 1) b1.1 b1.2 0
def f_X1_init (h : HP) (q : Nat) (v0 : Nat) (v1 : Nat) : Option (HP × Nat) := b_X1_init_0 v0 v1 h q 113 19796
theorem wc_X1_init_15 {l : Launch} {X : SCR} {Q : PST} {res : HP × Nat} (hQ : Q (.inl none) res.1 res.2) {v0 : Nat} {v1 : Nat} {k15 : HP → Nat → Nat → Nat → Int32 → Option (HP × Nat)} (hk15 : ∀ (h : HP) (q bc bs : Nat) (v2 : Int32), k15 h q bc bs v2 = some res → SP l X M_X1_init 15 [(0, .ref v0), (1, .ref v1), (2, .int v2)] [] h q bc bs Q) {h : HP} {q bc bs : Nat} {v2 : Int32} (hf : c_X1_init_15 v0 v1 k15 h q bc bs v2 = some res) : SP l X M_X1_init 15 [(0, .ref v0), (1, .ref v1), (2, .int v2)] [] h q bc bs Q := by
  rw [c_X1_init_15] at hf
  refine sp_iload_n (pc := 15) dX1_init_15 2 rfl ?_
  refine sp_bipush (pc := 16) (v := 14) dX1_init_16 (by decide) ?_
  refine sp_icmp_ge (pc := 18) (tgt := 43) dX1_init_18 (by decide) (fun c1 => ?_) (fun c1 => ?_)
  · rw [if_pos c1] at hf
    obtain rfl := Option.some.inj hf
    exact sp_return (pc := 43) dX1_init_43 rfl hQ
  · rw [if_neg c1] at hf
    refine sp_aload_n (pc := 21) dX1_init_21 0 rfl ?_
    obtain ⟨x2, ex2, hf⟩ := ob hf
    refine sp_gR (pc := 22) fl_RX1_11 dX1_init_22 ex2 ?_
    refine sp_iload_n (pc := 25) dX1_init_25 2 rfl ?_
    obtain ⟨b4, eb4, hf⟩ := ob hf
    obtain ⟨b5, eb5, hf⟩ := ob hf
    obtain ⟨h3, eh3, hf⟩ := ob hf
    obtain rfl := Option.some.inj eh3
    refine sp_new (pc := 26) (bc2 := b4) (bs2 := b5) nw_RX1_9 dX1_init_26 (tk_spec eb4) (tk_spec eb5) (fun hfr => ?_)
    refine sp_dup (pc := 29) dX1_init_29 rfl ?_
    refine sp_aload_n (pc := 30) dX1_init_30 1 rfl ?_
    refine sp_bipush (pc := 31) (v := 48) dX1_init_31 (by decide) ?_
    obtain ⟨b7, eb7, hf⟩ := ob hf
    obtain ⟨b8, eb8, hf⟩ := ob hf
    obtain ⟨y6, ey6, hf⟩ := ob hf
    refine sp_callIv (pc := 33) (z := M_X3_init) (As := [.ref v1, .int 48]) (b := q) (bc2 := b7) (bs2 := b8) (m_X3_init (Q := _) ⟨(), rfl, ?_⟩ ey6) rfl rfl rfl dX1_init_33 rfl ck_X1_init_17 (Nat.le_of_ble_eq_true rfl) (tk_spec eb7) (tk_spec eb8) rfl
    obtain ⟨h9, eh9, hf⟩ := ob hf
    refine sp_wR4 (pc := 36) dX1_init_36 eh9 ?_
    refine sp_iinc (pc := 37) (v := v2 + 1) (lv' := [(2, .int (v2 + 1)), (0, .ref v0), (1, .ref v1)]) dX1_init_37 2 rfl rfl (by decide) rfl ?_
    refine sp_goto (pc := 40) (tgt := 15) dX1_init_40 (by decide) ?_
    exact sp_sub [1, 2, 0] rfl (hk15 _ _ _ _ _ hf)

theorem w_X1_init_15 {l : Launch} {X : SCR} {Q : PST} {res : HP × Nat} (hQ : Q (.inl none) res.1 res.2) {v0 : Nat} {v1 : Nat} : ∀ (n : Nat) {h : HP} {q bc bs : Nat} {v2 : Int32}, b_X1_init_15 v0 v1 n h q bc bs v2 = some res → SP l X M_X1_init 15 [(0, .ref v0), (1, .ref v1), (2, .int v2)] [] h q bc bs Q := by
  intro n
  induction n with
  | zero =>
    intro h q bc bs v2 hf
    rw [b_X1_init_15] at hf
    cases hf
  | succ n ih =>
    intro h q bc bs v2 hf
    rw [b_X1_init_15] at hf
    exact wc_X1_init_15 hQ (fun h q bc bs v2 hf => ih hf) hf

theorem w_X1_init_0 {l : Launch} {X : SCR} {Q : PST} {res : HP × Nat} {h : HP} {q bc bs : Nat} (hQ : Q (.inl none) res.1 res.2) {v0 : Nat} {v1 : Nat} (hf : b_X1_init_0 v0 v1 h q bc bs  = some res) : SP l X M_X1_init 0 [(0, .ref v0), (1, .ref v1)] [] h q bc bs Q := by
  rw [b_X1_init_0] at hf
  refine sp_aload_n (pc := 0) dX1_init_0 0 rfl ?_
  refine sp_objInit (pc := 1) bk_148 bk_30 bk_31 dX1_init_1 (by decide) (Nat.le_of_ble_eq_true rfl) ?_
  refine sp_aload_n (pc := 4) dX1_init_4 0 rfl ?_
  refine sp_bipush (pc := 5) (v := 14) dX1_init_5 (by decide) ?_
  obtain ⟨b1, eb1, hf⟩ := ob hf
  obtain ⟨h2, eh2, hf⟩ := ob hf
  obtain rfl := Option.some.inj eh2
  obtain ⟨g1b1, g2b1, g3b1, g4b1⟩ := alN_spec eb1
  refine sp_anew4 (pc := 7) (bc2 := b1.1) (bs2 := b1.2) bk_149 tk_150 dX1_init_7 g1b1 rfl (Nat.le_trans (Nat.mul_le_mul_left _ (by decide)) g2b1) g3b1 g4b1 (fun hfr => ?_)
  obtain ⟨h3, eh3, hf⟩ := ob hf
  refine sp_pRF (pc := 10) pf_RX1_11 rfl dX1_init_10 rfl rfl eh3 ?_
  refine sp_iconst (pc := 13) (v := 0) dX1_init_13 (by decide) ?_
  refine sp_istore_n (pc := 14) (lv' := [(2, .int 0), (0, .ref v0), (1, .ref v1)]) dX1_init_14 (by decide) rfl ?_
  exact sp_sub [1, 2, 0] rfl (w_X1_init_15 hQ FU hf)

theorem m_X1_init {l : Launch} {Q : PST} {h : HP} {v0 : Nat} {v1 : Nat} {sz : Nat} {res : HP × Nat} (hQ : Q (.inl none) res.1 res.2) (hf : f_X1_init h sz v0 v1 = some res) : MM l M_X1_init [.ref v0, .ref v1] h sz Q := by
  rw [f_X1_init] at hf
  exact MM_of wok_X1_init (by decide +kernel) (Nat.le_of_ble_eq_true rfl) ((w_X1_init_0 hQ hf))

theorem dX1_size_0 : decode (mB M_X1_size) 0 = .ok (.aload_n 0, 1) := by decide +kernel
theorem dX1_size_1 : decode (mB M_X1_size) 1 = .ok (.getfield 20, 3) := by decide +kernel
theorem dX1_size_4 : decode (mB M_X1_size) 4 = .ok (.ireturn, 1) := by decide +kernel
def b_X1_size_0 (h : HP) (v0 : Nat) : Option (Int32) :=
  (gI 1 2 h v0).bind fun x1 => some (x1)
def f_X1_size (h : HP) (v0 : Nat) : Option (Int32) := (kO 1 h v0).bind fun _ => b_X1_size_0 h v0
theorem w_X1_size_0 {l : Launch} {X : SCR} {Q : PST} {bc bs : Nat} {res : Int32} {h : HP} (hQ : ∀ sz', Q (.inl (some (.int res))) h sz') {v0 : Nat} {sz : Nat} (hf : b_X1_size_0 h v0  = some res) : SP l X M_X1_size 0 [(0, .ref v0)] [] h sz bc bs Q := by
  rw [b_X1_size_0] at hf
  refine sp_aload_n (pc := 0) dX1_size_0 0 rfl ?_
  obtain ⟨x1, ex1, hf⟩ := ob hf
  refine sp_gI (pc := 1) fl_RX1_20 dX1_size_1 ex1 ?_
  obtain rfl := Option.some.inj hf
  exact sp_ireturn (pc := 4) dX1_size_4 rfl rfl (hQ _)

theorem o_X1_size {h : HP} {v0 : Nat} {res : Int32} (hf : f_X1_size h v0 = some res) : ∃ fs, h v0 = some (.inr (1, fs)) := by
  obtain ⟨u, eu, -⟩ := ob hf
  exact kO_spec eu

theorem m_X1_size {l : Launch} {Q : PST} {h : HP} {v0 : Nat} {sz : Nat} {res : Int32} (hQ : ∀ sz', Q (.inl (some (.int res))) h sz') (hf : f_X1_size h v0 = some res) : MM l M_X1_size [.ref v0] h sz Q := by
  obtain ⟨u, eu, hf⟩ := ob hf
  exact MM_of wok_X1_size (by decide +kernel) (Nat.le_of_ble_eq_true rfl) ((w_X1_size_0 hQ hf))

theorem dX6_replace_0 : decode (mB M_X6_replace) 0 = .ok (.aload_n 0, 1) := by decide +kernel
theorem dX6_replace_1 : decode (mB M_X6_replace) 1 = .ok (.getfield 30, 3) := by decide +kernel
theorem dX6_replace_4 : decode (mB M_X6_replace) 4 = .ok (.iload_n 2, 1) := by decide +kernel
theorem dX6_replace_5 : decode (mB M_X6_replace) 5 = .ok (.isub, 1) := by decide +kernel
theorem dX6_replace_6 : decode (mB M_X6_replace) 6 = .ok (.istore 4, 2) := by decide +kernel
theorem dX6_replace_8 : decode (mB M_X6_replace) 8 = .ok (.iload_n 1, 1) := by decide +kernel
theorem dX6_replace_9 : decode (mB M_X6_replace) 9 = .ok (.aload_n 3, 1) := by decide +kernel
theorem dX6_replace_10 : decode (mB M_X6_replace) 10 = .ok (.getfield 30, 3) := by decide +kernel
theorem dX6_replace_13 : decode (mB M_X6_replace) 13 = .ok (.iadd, 1) := by decide +kernel
theorem dX6_replace_14 : decode (mB M_X6_replace) 14 = .ok (.istore 5, 2) := by decide +kernel
theorem dX6_replace_16 : decode (mB M_X6_replace) 16 = .ok (.iload_n 1, 1) := by decide +kernel
theorem dX6_replace_17 : decode (mB M_X6_replace) 17 = .ok (.ifCond .lt 26, 3) := by decide +kernel
theorem dX6_replace_20 : decode (mB M_X6_replace) 20 = .ok (.iload_n 2, 1) := by decide +kernel
theorem dX6_replace_21 : decode (mB M_X6_replace) 21 = .ok (.iload_n 1, 1) := by decide +kernel
theorem dX6_replace_22 : decode (mB M_X6_replace) 22 = .ok (.if_icmp .lt 21, 3) := by decide +kernel
theorem dX6_replace_25 : decode (mB M_X6_replace) 25 = .ok (.iload 4, 2) := by decide +kernel
theorem dX6_replace_27 : decode (mB M_X6_replace) 27 = .ok (.ifCond .lt 16, 3) := by decide +kernel
theorem dX6_replace_30 : decode (mB M_X6_replace) 30 = .ok (.iload 5, 2) := by decide +kernel
theorem dX6_replace_32 : decode (mB M_X6_replace) 32 = .ok (.iload 4, 2) := by decide +kernel
theorem dX6_replace_34 : decode (mB M_X6_replace) 34 = .ok (.iadd, 1) := by decide +kernel
theorem dX6_replace_35 : decode (mB M_X6_replace) 35 = .ok (.aload_n 0, 1) := by decide +kernel
theorem dX6_replace_36 : decode (mB M_X6_replace) 36 = .ok (.getfield 15, 3) := by decide +kernel
theorem dX6_replace_39 : decode (mB M_X6_replace) 39 = .ok (.arraylength, 1) := by decide +kernel
theorem dX6_replace_40 : decode (mB M_X6_replace) 40 = .ok (.if_icmp .le 4, 3) := by decide +kernel
theorem dX6_replace_43 : decode (mB M_X6_replace) 43 = .ok (.return_, 1) := by decide +kernel
theorem dX6_replace_44 : decode (mB M_X6_replace) 44 = .ok (.aload_n 0, 1) := by decide +kernel
theorem dX6_replace_45 : decode (mB M_X6_replace) 45 = .ok (.getfield 15, 3) := by decide +kernel
theorem dX6_replace_48 : decode (mB M_X6_replace) 48 = .ok (.iload_n 2, 1) := by decide +kernel
theorem dX6_replace_49 : decode (mB M_X6_replace) 49 = .ok (.aload_n 0, 1) := by decide +kernel
theorem dX6_replace_50 : decode (mB M_X6_replace) 50 = .ok (.getfield 15, 3) := by decide +kernel
theorem dX6_replace_53 : decode (mB M_X6_replace) 53 = .ok (.iload 5, 2) := by decide +kernel
theorem dX6_replace_55 : decode (mB M_X6_replace) 55 = .ok (.iload 4, 2) := by decide +kernel
theorem dX6_replace_57 : decode (mB M_X6_replace) 57 = .ok (.invokestatic 34, 3) := by decide +kernel
theorem dX6_replace_60 : decode (mB M_X6_replace) 60 = .ok (.aload_n 0, 1) := by decide +kernel
theorem dX6_replace_61 : decode (mB M_X6_replace) 61 = .ok (.getfield 21, 3) := by decide +kernel
theorem dX6_replace_64 : decode (mB M_X6_replace) 64 = .ok (.iload_n 2, 1) := by decide +kernel
theorem dX6_replace_65 : decode (mB M_X6_replace) 65 = .ok (.aload_n 0, 1) := by decide +kernel
theorem dX6_replace_66 : decode (mB M_X6_replace) 66 = .ok (.getfield 21, 3) := by decide +kernel
theorem dX6_replace_69 : decode (mB M_X6_replace) 69 = .ok (.iload 5, 2) := by decide +kernel
theorem dX6_replace_71 : decode (mB M_X6_replace) 71 = .ok (.iload 4, 2) := by decide +kernel
theorem dX6_replace_73 : decode (mB M_X6_replace) 73 = .ok (.invokestatic 34, 3) := by decide +kernel
theorem dX6_replace_76 : decode (mB M_X6_replace) 76 = .ok (.aload_n 0, 1) := by decide +kernel
theorem dX6_replace_77 : decode (mB M_X6_replace) 77 = .ok (.getfield 24, 3) := by decide +kernel
theorem dX6_replace_80 : decode (mB M_X6_replace) 80 = .ok (.iload_n 2, 1) := by decide +kernel
theorem dX6_replace_81 : decode (mB M_X6_replace) 81 = .ok (.aload_n 0, 1) := by decide +kernel
theorem dX6_replace_82 : decode (mB M_X6_replace) 82 = .ok (.getfield 24, 3) := by decide +kernel
theorem dX6_replace_85 : decode (mB M_X6_replace) 85 = .ok (.iload 5, 2) := by decide +kernel
theorem dX6_replace_87 : decode (mB M_X6_replace) 87 = .ok (.iload 4, 2) := by decide +kernel
theorem dX6_replace_89 : decode (mB M_X6_replace) 89 = .ok (.invokestatic 34, 3) := by decide +kernel
theorem dX6_replace_92 : decode (mB M_X6_replace) 92 = .ok (.aload_n 0, 1) := by decide +kernel
theorem dX6_replace_93 : decode (mB M_X6_replace) 93 = .ok (.getfield 27, 3) := by decide +kernel
theorem dX6_replace_96 : decode (mB M_X6_replace) 96 = .ok (.iload_n 2, 1) := by decide +kernel
theorem dX6_replace_97 : decode (mB M_X6_replace) 97 = .ok (.aload_n 0, 1) := by decide +kernel
theorem dX6_replace_98 : decode (mB M_X6_replace) 98 = .ok (.getfield 27, 3) := by decide +kernel
theorem dX6_replace_101 : decode (mB M_X6_replace) 101 = .ok (.iload 5, 2) := by decide +kernel
theorem dX6_replace_103 : decode (mB M_X6_replace) 103 = .ok (.iload 4, 2) := by decide +kernel
theorem dX6_replace_105 : decode (mB M_X6_replace) 105 = .ok (.invokestatic 34, 3) := by decide +kernel
theorem dX6_replace_108 : decode (mB M_X6_replace) 108 = .ok (.aload_n 3, 1) := by decide +kernel
theorem dX6_replace_109 : decode (mB M_X6_replace) 109 = .ok (.getfield 15, 3) := by decide +kernel
theorem dX6_replace_112 : decode (mB M_X6_replace) 112 = .ok (.iconst 0, 1) := by decide +kernel
theorem dX6_replace_113 : decode (mB M_X6_replace) 113 = .ok (.aload_n 0, 1) := by decide +kernel
theorem dX6_replace_114 : decode (mB M_X6_replace) 114 = .ok (.getfield 15, 3) := by decide +kernel
theorem dX6_replace_117 : decode (mB M_X6_replace) 117 = .ok (.iload_n 1, 1) := by decide +kernel
theorem dX6_replace_118 : decode (mB M_X6_replace) 118 = .ok (.aload_n 3, 1) := by decide +kernel
theorem dX6_replace_119 : decode (mB M_X6_replace) 119 = .ok (.getfield 30, 3) := by decide +kernel
theorem dX6_replace_122 : decode (mB M_X6_replace) 122 = .ok (.invokestatic 34, 3) := by decide +kernel
theorem dX6_replace_125 : decode (mB M_X6_replace) 125 = .ok (.aload_n 3, 1) := by decide +kernel
theorem dX6_replace_126 : decode (mB M_X6_replace) 126 = .ok (.getfield 21, 3) := by decide +kernel
theorem dX6_replace_129 : decode (mB M_X6_replace) 129 = .ok (.iconst 0, 1) := by decide +kernel
theorem dX6_replace_130 : decode (mB M_X6_replace) 130 = .ok (.aload_n 0, 1) := by decide +kernel
theorem dX6_replace_131 : decode (mB M_X6_replace) 131 = .ok (.getfield 21, 3) := by decide +kernel
theorem dX6_replace_134 : decode (mB M_X6_replace) 134 = .ok (.iload_n 1, 1) := by decide +kernel
theorem dX6_replace_135 : decode (mB M_X6_replace) 135 = .ok (.aload_n 3, 1) := by decide +kernel
theorem dX6_replace_136 : decode (mB M_X6_replace) 136 = .ok (.getfield 30, 3) := by decide +kernel
theorem dX6_replace_139 : decode (mB M_X6_replace) 139 = .ok (.invokestatic 34, 3) := by decide +kernel
theorem dX6_replace_142 : decode (mB M_X6_replace) 142 = .ok (.aload_n 3, 1) := by decide +kernel
theorem dX6_replace_143 : decode (mB M_X6_replace) 143 = .ok (.getfield 24, 3) := by decide +kernel
theorem dX6_replace_146 : decode (mB M_X6_replace) 146 = .ok (.iconst 0, 1) := by decide +kernel
theorem dX6_replace_147 : decode (mB M_X6_replace) 147 = .ok (.aload_n 0, 1) := by decide +kernel
theorem dX6_replace_148 : decode (mB M_X6_replace) 148 = .ok (.getfield 24, 3) := by decide +kernel
theorem dX6_replace_151 : decode (mB M_X6_replace) 151 = .ok (.iload_n 1, 1) := by decide +kernel
theorem dX6_replace_152 : decode (mB M_X6_replace) 152 = .ok (.aload_n 3, 1) := by decide +kernel
theorem dX6_replace_153 : decode (mB M_X6_replace) 153 = .ok (.getfield 30, 3) := by decide +kernel
theorem dX6_replace_156 : decode (mB M_X6_replace) 156 = .ok (.invokestatic 34, 3) := by decide +kernel
theorem dX6_replace_159 : decode (mB M_X6_replace) 159 = .ok (.aload_n 3, 1) := by decide +kernel
theorem dX6_replace_160 : decode (mB M_X6_replace) 160 = .ok (.getfield 27, 3) := by decide +kernel
theorem dX6_replace_163 : decode (mB M_X6_replace) 163 = .ok (.iconst 0, 1) := by decide +kernel
theorem dX6_replace_164 : decode (mB M_X6_replace) 164 = .ok (.aload_n 0, 1) := by decide +kernel
theorem dX6_replace_165 : decode (mB M_X6_replace) 165 = .ok (.getfield 27, 3) := by decide +kernel
theorem dX6_replace_168 : decode (mB M_X6_replace) 168 = .ok (.iload_n 1, 1) := by decide +kernel
theorem dX6_replace_169 : decode (mB M_X6_replace) 169 = .ok (.aload_n 3, 1) := by decide +kernel
theorem dX6_replace_170 : decode (mB M_X6_replace) 170 = .ok (.getfield 30, 3) := by decide +kernel
theorem dX6_replace_173 : decode (mB M_X6_replace) 173 = .ok (.invokestatic 34, 3) := by decide +kernel
theorem dX6_replace_176 : decode (mB M_X6_replace) 176 = .ok (.aload_n 0, 1) := by decide +kernel
theorem dX6_replace_177 : decode (mB M_X6_replace) 177 = .ok (.iload 5, 2) := by decide +kernel
theorem dX6_replace_179 : decode (mB M_X6_replace) 179 = .ok (.iload 4, 2) := by decide +kernel
theorem dX6_replace_181 : decode (mB M_X6_replace) 181 = .ok (.iadd, 1) := by decide +kernel
theorem dX6_replace_182 : decode (mB M_X6_replace) 182 = .ok (.putfield 30, 3) := by decide +kernel
theorem dX6_replace_185 : decode (mB M_X6_replace) 185 = .ok (.return_, 1) := by decide +kernel
def b_X6_replace_0 (v0 : Nat) (v1 : Int32) (v2 : Int32) (v3 : Nat) (h : HP) : Option (HP) :=
  (gI 6 4 h v0).bind fun x1 => (gI 6 4 h v3).bind fun x2 => if v1 < 0 then some h else if v2 < v1 then some h else if (x1 - v2) < 0 then some h else (gR 6 0 h v0).bind fun x6 => (aN h x6).bind fun x7 => if ((v1 + x2) + (x1 - v2)) ≤ x7 then (gR 6 0 h v0).bind fun x9 => (gR 6 0 h v0).bind fun x10 => (cI h x9 v2 x10 (v1 + x2) (x1 - v2)).bind fun h11 => (gR 6 1 h11 v0).bind fun x12 => (gR 6 1 h11 v0).bind fun x13 => (cI h11 x12 v2 x13 (v1 + x2) (x1 - v2)).bind fun h14 => (gR 6 2 h14 v0).bind fun x15 => (gR 6 2 h14 v0).bind fun x16 => (cI h14 x15 v2 x16 (v1 + x2) (x1 - v2)).bind fun h17 => (gR 6 3 h17 v0).bind fun x18 => (gR 6 3 h17 v0).bind fun x19 => (cI h17 x18 v2 x19 (v1 + x2) (x1 - v2)).bind fun h20 => (gR 6 0 h20 v3).bind fun x21 => (gR 6 0 h20 v0).bind fun x22 => (gI 6 4 h20 v3).bind fun x23 => (cI h20 x21 0 x22 v1 x23).bind fun h24 => (gR 6 1 h24 v3).bind fun x25 => (gR 6 1 h24 v0).bind fun x26 => (gI 6 4 h24 v3).bind fun x27 => (cI h24 x25 0 x26 v1 x27).bind fun h28 => (gR 6 2 h28 v3).bind fun x29 => (gR 6 2 h28 v0).bind fun x30 => (gI 6 4 h28 v3).bind fun x31 => (cI h28 x29 0 x30 v1 x31).bind fun h32 => (gR 6 3 h32 v3).bind fun x33 => (gR 6 3 h32 v0).bind fun x34 => (gI 6 4 h32 v3).bind fun x35 => (cI h32 x33 0 x34 v1 x35).bind fun h36 => (pI 6 4 h36 v0 ((v1 + x2) + (x1 - v2))).bind fun h37 => some h37 else some h
def f_X6_replace (h : HP) (v0 : Nat) (v1 : Int32) (v2 : Int32) (v3 : Nat) : Option (HP) := (kO 6 h v0).bind fun _ => b_X6_replace_0 v0 v1 v2 v3 h
theorem w_X6_replace_0 {l : Launch} {X : SCR} {Q : PST} {bc bs : Nat} {res : HP} {h : HP} (hQ : ∀ sz', Q (.inl none) res sz') {v0 : Nat} {v1 : Int32} {v2 : Int32} {v3 : Nat} {sz : Nat} (hf : b_X6_replace_0 v0 v1 v2 v3 h  = some res) : SP l X M_X6_replace 0 [(0, .ref v0), (1, .int v1), (2, .int v2), (3, .ref v3)] [] h sz bc bs Q := by
  rw [b_X6_replace_0] at hf
  refine sp_aload_n (pc := 0) dX6_replace_0 0 rfl ?_
  obtain ⟨x1, ex1, hf⟩ := ob hf
  refine sp_gI (pc := 1) fl_RX6_30 dX6_replace_1 ex1 ?_
  refine sp_iload_n (pc := 4) dX6_replace_4 2 rfl ?_
  refine sp_isub (pc := 5) dX6_replace_5 ?_
  refine sp_istore (pc := 6) (lv' := [(4, .int (x1 - v2)), (0, .ref v0), (1, .int v1), (2, .int v2), (3, .ref v3)]) dX6_replace_6 (by decide) rfl ?_
  refine sp_iload_n (pc := 8) dX6_replace_8 2 rfl ?_
  refine sp_aload_n (pc := 9) dX6_replace_9 4 rfl ?_
  obtain ⟨x2, ex2, hf⟩ := ob hf
  refine sp_gI (pc := 10) fl_RX6_30 dX6_replace_10 ex2 ?_
  refine sp_iadd (pc := 13) dX6_replace_13 ?_
  refine sp_istore (pc := 14) (lv' := [(5, .int (v1 + x2)), (4, .int (x1 - v2)), (0, .ref v0), (1, .int v1), (2, .int v2), (3, .ref v3)]) dX6_replace_14 (by decide) rfl ?_
  refine sp_iload_n (pc := 16) dX6_replace_16 3 rfl ?_
  refine sp_if_lt (pc := 17) (tgt := 43) dX6_replace_17 (by decide) (fun c3 => ?_) (fun c3 => ?_)
  · rw [if_pos c3] at hf
    obtain rfl := Option.some.inj hf
    exact sp_return (pc := 43) dX6_replace_43 rfl (hQ _)
  · rw [if_neg c3] at hf
    refine sp_iload_n (pc := 20) dX6_replace_20 4 rfl ?_
    refine sp_iload_n (pc := 21) dX6_replace_21 3 rfl ?_
    refine sp_icmp_lt (pc := 22) (tgt := 43) dX6_replace_22 (by decide) (fun c4 => ?_) (fun c4 => ?_)
    · rw [if_pos c4] at hf
      obtain rfl := Option.some.inj hf
      exact sp_return (pc := 43) dX6_replace_43 rfl (hQ _)
    · rw [if_neg c4] at hf
      refine sp_iload (pc := 25) dX6_replace_25 1 rfl ?_
      refine sp_if_lt (pc := 27) (tgt := 43) dX6_replace_27 (by decide) (fun c5 => ?_) (fun c5 => ?_)
      · rw [if_pos c5] at hf
        obtain rfl := Option.some.inj hf
        exact sp_return (pc := 43) dX6_replace_43 rfl (hQ _)
      · rw [if_neg c5] at hf
        refine sp_iload (pc := 30) dX6_replace_30 0 rfl ?_
        refine sp_iload (pc := 32) dX6_replace_32 1 rfl ?_
        refine sp_iadd (pc := 34) dX6_replace_34 ?_
        refine sp_aload_n (pc := 35) dX6_replace_35 2 rfl ?_
        obtain ⟨x6, ex6, hf⟩ := ob hf
        refine sp_gR (pc := 36) fl_RX6_15 dX6_replace_36 ex6 ?_
        obtain ⟨x7, ex7, hf⟩ := ob hf
        refine sp_aN (pc := 39) dX6_replace_39 ex7 ?_
        refine sp_icmp_le (pc := 40) (tgt := 44) dX6_replace_40 (by decide) (fun c8 => ?_) (fun c8 => ?_)
        · rw [if_pos c8] at hf
          refine sp_aload_n (pc := 44) dX6_replace_44 2 rfl ?_
          obtain ⟨x9, ex9, hf⟩ := ob hf
          refine sp_gR (pc := 45) fl_RX6_15 dX6_replace_45 ex9 ?_
          refine sp_iload_n (pc := 48) dX6_replace_48 4 rfl ?_
          refine sp_aload_n (pc := 49) dX6_replace_49 2 rfl ?_
          obtain ⟨x10, ex10, hf⟩ := ob hf
          refine sp_gR (pc := 50) fl_RX6_15 dX6_replace_50 ex10 ?_
          refine sp_iload (pc := 53) dX6_replace_53 0 rfl ?_
          refine sp_iload (pc := 55) dX6_replace_55 1 rfl ?_
          obtain ⟨h11, eh11, hf⟩ := ob hf
          refine sp_cI (pc := 57) bk_360 bk_362 bk_361 bk_22 dX6_replace_57 (by decide) (Nat.le_of_ble_eq_true rfl) eh11 (fun sz => ?_)
          refine sp_aload_n (pc := 60) dX6_replace_60 2 rfl ?_
          obtain ⟨x12, ex12, hf⟩ := ob hf
          refine sp_gR (pc := 61) fl_RX6_21 dX6_replace_61 ex12 ?_
          refine sp_iload_n (pc := 64) dX6_replace_64 4 rfl ?_
          refine sp_aload_n (pc := 65) dX6_replace_65 2 rfl ?_
          obtain ⟨x13, ex13, hf⟩ := ob hf
          refine sp_gR (pc := 66) fl_RX6_21 dX6_replace_66 ex13 ?_
          refine sp_iload (pc := 69) dX6_replace_69 0 rfl ?_
          refine sp_iload (pc := 71) dX6_replace_71 1 rfl ?_
          obtain ⟨h14, eh14, hf⟩ := ob hf
          refine sp_cI (pc := 73) bk_360 bk_362 bk_361 bk_22 dX6_replace_73 (by decide) (Nat.le_of_ble_eq_true rfl) eh14 (fun sz => ?_)
          refine sp_aload_n (pc := 76) dX6_replace_76 2 rfl ?_
          obtain ⟨x15, ex15, hf⟩ := ob hf
          refine sp_gR (pc := 77) fl_RX6_24 dX6_replace_77 ex15 ?_
          refine sp_iload_n (pc := 80) dX6_replace_80 4 rfl ?_
          refine sp_aload_n (pc := 81) dX6_replace_81 2 rfl ?_
          obtain ⟨x16, ex16, hf⟩ := ob hf
          refine sp_gR (pc := 82) fl_RX6_24 dX6_replace_82 ex16 ?_
          refine sp_iload (pc := 85) dX6_replace_85 0 rfl ?_
          refine sp_iload (pc := 87) dX6_replace_87 1 rfl ?_
          obtain ⟨h17, eh17, hf⟩ := ob hf
          refine sp_cI (pc := 89) bk_360 bk_362 bk_361 bk_22 dX6_replace_89 (by decide) (Nat.le_of_ble_eq_true rfl) eh17 (fun sz => ?_)
          refine sp_aload_n (pc := 92) dX6_replace_92 2 rfl ?_
          obtain ⟨x18, ex18, hf⟩ := ob hf
          refine sp_gR (pc := 93) fl_RX6_27 dX6_replace_93 ex18 ?_
          refine sp_iload_n (pc := 96) dX6_replace_96 4 rfl ?_
          refine sp_aload_n (pc := 97) dX6_replace_97 2 rfl ?_
          obtain ⟨x19, ex19, hf⟩ := ob hf
          refine sp_gR (pc := 98) fl_RX6_27 dX6_replace_98 ex19 ?_
          refine sp_iload (pc := 101) dX6_replace_101 0 rfl ?_
          refine sp_iload (pc := 103) dX6_replace_103 1 rfl ?_
          obtain ⟨h20, eh20, hf⟩ := ob hf
          refine sp_cI (pc := 105) bk_360 bk_362 bk_361 bk_22 dX6_replace_105 (by decide) (Nat.le_of_ble_eq_true rfl) eh20 (fun sz => ?_)
          refine sp_aload_n (pc := 108) dX6_replace_108 5 rfl ?_
          obtain ⟨x21, ex21, hf⟩ := ob hf
          refine sp_gR (pc := 109) fl_RX6_15 dX6_replace_109 ex21 ?_
          refine sp_iconst (pc := 112) (v := 0) dX6_replace_112 (by decide) ?_
          refine sp_aload_n (pc := 113) dX6_replace_113 2 rfl ?_
          obtain ⟨x22, ex22, hf⟩ := ob hf
          refine sp_gR (pc := 114) fl_RX6_15 dX6_replace_114 ex22 ?_
          refine sp_iload_n (pc := 117) dX6_replace_117 3 rfl ?_
          refine sp_aload_n (pc := 118) dX6_replace_118 5 rfl ?_
          obtain ⟨x23, ex23, hf⟩ := ob hf
          refine sp_gI (pc := 119) fl_RX6_30 dX6_replace_119 ex23 ?_
          obtain ⟨h24, eh24, hf⟩ := ob hf
          refine sp_cI (pc := 122) bk_360 bk_362 bk_361 bk_22 dX6_replace_122 (by decide) (Nat.le_of_ble_eq_true rfl) eh24 (fun sz => ?_)
          refine sp_aload_n (pc := 125) dX6_replace_125 5 rfl ?_
          obtain ⟨x25, ex25, hf⟩ := ob hf
          refine sp_gR (pc := 126) fl_RX6_21 dX6_replace_126 ex25 ?_
          refine sp_iconst (pc := 129) (v := 0) dX6_replace_129 (by decide) ?_
          refine sp_aload_n (pc := 130) dX6_replace_130 2 rfl ?_
          obtain ⟨x26, ex26, hf⟩ := ob hf
          refine sp_gR (pc := 131) fl_RX6_21 dX6_replace_131 ex26 ?_
          refine sp_iload_n (pc := 134) dX6_replace_134 3 rfl ?_
          refine sp_aload_n (pc := 135) dX6_replace_135 5 rfl ?_
          obtain ⟨x27, ex27, hf⟩ := ob hf
          refine sp_gI (pc := 136) fl_RX6_30 dX6_replace_136 ex27 ?_
          obtain ⟨h28, eh28, hf⟩ := ob hf
          refine sp_cI (pc := 139) bk_360 bk_362 bk_361 bk_22 dX6_replace_139 (by decide) (Nat.le_of_ble_eq_true rfl) eh28 (fun sz => ?_)
          refine sp_aload_n (pc := 142) dX6_replace_142 5 rfl ?_
          obtain ⟨x29, ex29, hf⟩ := ob hf
          refine sp_gR (pc := 143) fl_RX6_24 dX6_replace_143 ex29 ?_
          refine sp_iconst (pc := 146) (v := 0) dX6_replace_146 (by decide) ?_
          refine sp_aload_n (pc := 147) dX6_replace_147 2 rfl ?_
          obtain ⟨x30, ex30, hf⟩ := ob hf
          refine sp_gR (pc := 148) fl_RX6_24 dX6_replace_148 ex30 ?_
          refine sp_iload_n (pc := 151) dX6_replace_151 3 rfl ?_
          refine sp_aload_n (pc := 152) dX6_replace_152 5 rfl ?_
          obtain ⟨x31, ex31, hf⟩ := ob hf
          refine sp_gI (pc := 153) fl_RX6_30 dX6_replace_153 ex31 ?_
          obtain ⟨h32, eh32, hf⟩ := ob hf
          refine sp_cI (pc := 156) bk_360 bk_362 bk_361 bk_22 dX6_replace_156 (by decide) (Nat.le_of_ble_eq_true rfl) eh32 (fun sz => ?_)
          refine sp_aload_n (pc := 159) dX6_replace_159 5 rfl ?_
          obtain ⟨x33, ex33, hf⟩ := ob hf
          refine sp_gR (pc := 160) fl_RX6_27 dX6_replace_160 ex33 ?_
          refine sp_iconst (pc := 163) (v := 0) dX6_replace_163 (by decide) ?_
          refine sp_aload_n (pc := 164) dX6_replace_164 2 rfl ?_
          obtain ⟨x34, ex34, hf⟩ := ob hf
          refine sp_gR (pc := 165) fl_RX6_27 dX6_replace_165 ex34 ?_
          refine sp_iload_n (pc := 168) dX6_replace_168 3 rfl ?_
          refine sp_aload_n (pc := 169) dX6_replace_169 5 rfl ?_
          obtain ⟨x35, ex35, hf⟩ := ob hf
          refine sp_gI (pc := 170) fl_RX6_30 dX6_replace_170 ex35 ?_
          obtain ⟨h36, eh36, hf⟩ := ob hf
          refine sp_cI (pc := 173) bk_360 bk_362 bk_361 bk_22 dX6_replace_173 (by decide) (Nat.le_of_ble_eq_true rfl) eh36 (fun sz => ?_)
          refine sp_aload_n (pc := 176) dX6_replace_176 2 rfl ?_
          refine sp_iload (pc := 177) dX6_replace_177 0 rfl ?_
          refine sp_iload (pc := 179) dX6_replace_179 1 rfl ?_
          refine sp_iadd (pc := 181) dX6_replace_181 ?_
          obtain ⟨h37, eh37, hf⟩ := ob hf
          refine sp_pI (pc := 182) pf_RX6_30 dX6_replace_182 eh37 (fun sz => ?_)
          obtain rfl := Option.some.inj hf
          exact sp_return (pc := 185) dX6_replace_185 rfl (hQ _)
        · rw [if_neg c8] at hf
          obtain rfl := Option.some.inj hf
          exact sp_return (pc := 43) dX6_replace_43 rfl (hQ _)

theorem o_X6_replace {h : HP} {v0 : Nat} {v1 : Int32} {v2 : Int32} {v3 : Nat} {res : HP} (hf : f_X6_replace h v0 v1 v2 v3 = some res) : ∃ fs, h v0 = some (.inr (6, fs)) := by
  obtain ⟨u, eu, -⟩ := ob hf
  exact kO_spec eu

theorem m_X6_replace {l : Launch} {Q : PST} {h : HP} {v0 : Nat} {v1 : Int32} {v2 : Int32} {v3 : Nat} {sz : Nat} {res : HP} (hQ : ∀ sz', Q (.inl none) res sz') (hf : f_X6_replace h v0 v1 v2 v3 = some res) : MM l M_X6_replace [.ref v0, .int v1, .int v2, .ref v3] h sz Q := by
  obtain ⟨u, eu, hf⟩ := ob hf
  exact MM_of wok_X6_replace (by decide +kernel) (Nat.le_of_ble_eq_true rfl) ((w_X6_replace_0 hQ hf))

theorem dX3_become_0 : decode (mB M_X3_become) 0 = .ok (.aload_n 0, 1) := by decide +kernel
theorem dX3_become_1 : decode (mB M_X3_become) 1 = .ok (.getfield 27, 3) := by decide +kernel
theorem dX3_become_4 : decode (mB M_X3_become) 4 = .ok (.iconst 0, 1) := by decide +kernel
theorem dX3_become_5 : decode (mB M_X3_become) 5 = .ok (.aload_n 0, 1) := by decide +kernel
theorem dX3_become_6 : decode (mB M_X3_become) 6 = .ok (.getfield 27, 3) := by decide +kernel
theorem dX3_become_9 : decode (mB M_X3_become) 9 = .ok (.invokevirtual 47, 3) := by decide +kernel
theorem dX3_become_12 : decode (mB M_X3_become) 12 = .ok (.aload_n 1, 1) := by decide +kernel
theorem dX3_become_13 : decode (mB M_X3_become) 13 = .ok (.getfield 27, 3) := by decide +kernel
theorem dX3_become_16 : decode (mB M_X3_become) 16 = .ok (.invokevirtual 51, 3) := by decide +kernel
theorem dX3_become_19 : decode (mB M_X3_become) 19 = .ok (.aload_n 1, 1) := by decide +kernel
theorem dX3_become_20 : decode (mB M_X3_become) 20 = .ok (.getfield 9, 3) := by decide +kernel
theorem dX3_become_23 : decode (mB M_X3_become) 23 = .ok (.iconst 0, 1) := by decide +kernel
theorem dX3_become_24 : decode (mB M_X3_become) 24 = .ok (.aload_n 0, 1) := by decide +kernel
theorem dX3_become_25 : decode (mB M_X3_become) 25 = .ok (.getfield 9, 3) := by decide +kernel
theorem dX3_become_28 : decode (mB M_X3_become) 28 = .ok (.iconst 0, 1) := by decide +kernel
theorem dX3_become_29 : decode (mB M_X3_become) 29 = .ok (.aload_n 0, 1) := by decide +kernel
theorem dX3_become_30 : decode (mB M_X3_become) 30 = .ok (.getfield 9, 3) := by decide +kernel
theorem dX3_become_33 : decode (mB M_X3_become) 33 = .ok (.arraylength, 1) := by decide +kernel
theorem dX3_become_34 : decode (mB M_X3_become) 34 = .ok (.invokestatic 55, 3) := by decide +kernel
theorem dX3_become_37 : decode (mB M_X3_become) 37 = .ok (.aload_n 1, 1) := by decide +kernel
theorem dX3_become_38 : decode (mB M_X3_become) 38 = .ok (.getfield 15, 3) := by decide +kernel
theorem dX3_become_41 : decode (mB M_X3_become) 41 = .ok (.iconst 0, 1) := by decide +kernel
theorem dX3_become_42 : decode (mB M_X3_become) 42 = .ok (.aload_n 0, 1) := by decide +kernel
theorem dX3_become_43 : decode (mB M_X3_become) 43 = .ok (.getfield 15, 3) := by decide +kernel
theorem dX3_become_46 : decode (mB M_X3_become) 46 = .ok (.iconst 0, 1) := by decide +kernel
theorem dX3_become_47 : decode (mB M_X3_become) 47 = .ok (.aload_n 0, 1) := by decide +kernel
theorem dX3_become_48 : decode (mB M_X3_become) 48 = .ok (.getfield 15, 3) := by decide +kernel
theorem dX3_become_51 : decode (mB M_X3_become) 51 = .ok (.arraylength, 1) := by decide +kernel
theorem dX3_become_52 : decode (mB M_X3_become) 52 = .ok (.invokestatic 55, 3) := by decide +kernel
theorem dX3_become_55 : decode (mB M_X3_become) 55 = .ok (.aload_n 0, 1) := by decide +kernel
theorem dX3_become_56 : decode (mB M_X3_become) 56 = .ok (.aload_n 1, 1) := by decide +kernel
theorem dX3_become_57 : decode (mB M_X3_become) 57 = .ok (.getfield 34, 3) := by decide +kernel
theorem dX3_become_60 : decode (mB M_X3_become) 60 = .ok (.putfield 34, 3) := by decide +kernel
theorem dX3_become_63 : decode (mB M_X3_become) 63 = .ok (.aload_n 0, 1) := by decide +kernel
theorem dX3_become_64 : decode (mB M_X3_become) 64 = .ok (.aload_n 1, 1) := by decide +kernel
theorem dX3_become_65 : decode (mB M_X3_become) 65 = .ok (.getfield 38, 3) := by decide +kernel
theorem dX3_become_68 : decode (mB M_X3_become) 68 = .ok (.putfield 38, 3) := by decide +kernel
theorem dX3_become_71 : decode (mB M_X3_become) 71 = .ok (.aload_n 0, 1) := by decide +kernel
theorem dX3_become_72 : decode (mB M_X3_become) 72 = .ok (.aload_n 1, 1) := by decide +kernel
theorem dX3_become_73 : decode (mB M_X3_become) 73 = .ok (.getfield 41, 3) := by decide +kernel
theorem dX3_become_76 : decode (mB M_X3_become) 76 = .ok (.putfield 41, 3) := by decide +kernel
theorem dX3_become_79 : decode (mB M_X3_become) 79 = .ok (.aload_n 0, 1) := by decide +kernel
theorem dX3_become_80 : decode (mB M_X3_become) 80 = .ok (.aload_n 1, 1) := by decide +kernel
theorem dX3_become_81 : decode (mB M_X3_become) 81 = .ok (.getfield 44, 3) := by decide +kernel
theorem dX3_become_84 : decode (mB M_X3_become) 84 = .ok (.putfield 44, 3) := by decide +kernel
theorem dX3_become_87 : decode (mB M_X3_become) 87 = .ok (.return_, 1) := by decide +kernel
def b_X3_become_0 (v0 : Nat) (v1 : Nat) (h : HP) : Option (HP) :=
  (gR 3 1 h v0).bind fun x1 => (gR 3 1 h v0).bind fun x2 => (f_X6_size h x2).bind fun y3 => (gR 3 1 h v1).bind fun x4 => (f_X6_replace h x1 0 y3 x4).bind fun y5 => (gR 3 2 y5 v1).bind fun x6 => (gR 3 2 y5 v0).bind fun x7 => (gR 3 2 y5 v0).bind fun x8 => (aN y5 x8).bind fun x9 => (cI y5 x6 0 x7 0 x9).bind fun h10 => (gR 3 3 h10 v1).bind fun x11 => (gR 3 3 h10 v0).bind fun x12 => (gR 3 3 h10 v0).bind fun x13 => (aN h10 x13).bind fun x14 => (cI h10 x11 0 x12 0 x14).bind fun h15 => (gI 3 4 h15 v1).bind fun x16 => (pI 3 4 h15 v0 x16).bind fun h17 => (gI 3 5 h17 v1).bind fun x18 => (pI 3 5 h17 v0 x18).bind fun h19 => (gI 3 6 h19 v1).bind fun x20 => (pI 3 6 h19 v0 x20).bind fun h21 => (gI 3 7 h21 v1).bind fun x22 => (pI 3 7 h21 v0 x22).bind fun h23 => some h23
def f_X3_become (h : HP) (v0 : Nat) (v1 : Nat) : Option (HP) := (kO 3 h v0).bind fun _ => b_X3_become_0 v0 v1 h
theorem w_X3_become_0 {l : Launch} {X : SCR} {Q : PST} {bc bs : Nat} {res : HP} {h : HP} (hQ : ∀ sz', Q (.inl none) res sz') {v0 : Nat} {v1 : Nat} {sz : Nat} (hf : b_X3_become_0 v0 v1 h  = some res) : SP l X M_X3_become 0 [(0, .ref v0), (1, .ref v1)] [] h sz bc bs Q := by
  rw [b_X3_become_0] at hf
  refine sp_aload_n (pc := 0) dX3_become_0 0 rfl ?_
  obtain ⟨x1, ex1, hf⟩ := ob hf
  refine sp_gR (pc := 1) fl_RX3_27 dX3_become_1 ex1 ?_
  refine sp_iconst (pc := 4) (v := 0) dX3_become_4 (by decide) ?_
  refine sp_aload_n (pc := 5) dX3_become_5 0 rfl ?_
  obtain ⟨x2, ex2, hf⟩ := ob hf
  refine sp_gR (pc := 6) fl_RX3_27 dX3_become_6 ex2 ?_
  obtain ⟨y3, ey3, hf⟩ := ob hf
  obtain ⟨fsy3, hoy3⟩ := o_X6_size ey3
  refine sp_callVi (pc := 9) (z := M_X6_size) (As := []) (b := x2) (bc2 := bc) (bs2 := bs) (m_X6_size (Q := _) (fun sz => ⟨y3, rfl, ?_⟩) ey3) rfl dX3_become_9 hoy3 rfl rfl ck_X3_become_47 (Nat.le_of_ble_eq_true rfl) rfl rfl rfl
  refine sp_aload_n (pc := 12) dX3_become_12 1 rfl ?_
  obtain ⟨x4, ex4, hf⟩ := ob hf
  refine sp_gR (pc := 13) fl_RX3_27 dX3_become_13 ex4 ?_
  obtain ⟨y5, ey5, hf⟩ := ob hf
  obtain ⟨fsy5, hoy5⟩ := o_X6_replace ey5
  refine sp_callVv (pc := 16) (z := M_X6_replace) (As := [.int 0, .int y3, .ref x4]) (b := x1) (bc2 := bc) (bs2 := bs) (m_X6_replace (Q := _) (fun sz => ⟨(), rfl, ?_⟩) ey5) rfl dX3_become_16 hoy5 rfl rfl ck_X3_become_51 (Nat.le_of_ble_eq_true rfl) rfl rfl rfl
  refine sp_aload_n (pc := 19) dX3_become_19 1 rfl ?_
  obtain ⟨x6, ex6, hf⟩ := ob hf
  refine sp_gR (pc := 20) fl_RX3_9 dX3_become_20 ex6 ?_
  refine sp_iconst (pc := 23) (v := 0) dX3_become_23 (by decide) ?_
  refine sp_aload_n (pc := 24) dX3_become_24 0 rfl ?_
  obtain ⟨x7, ex7, hf⟩ := ob hf
  refine sp_gR (pc := 25) fl_RX3_9 dX3_become_25 ex7 ?_
  refine sp_iconst (pc := 28) (v := 0) dX3_become_28 (by decide) ?_
  refine sp_aload_n (pc := 29) dX3_become_29 0 rfl ?_
  obtain ⟨x8, ex8, hf⟩ := ob hf
  refine sp_gR (pc := 30) fl_RX3_9 dX3_become_30 ex8 ?_
  obtain ⟨x9, ex9, hf⟩ := ob hf
  refine sp_aN (pc := 33) dX3_become_33 ex9 ?_
  obtain ⟨h10, eh10, hf⟩ := ob hf
  refine sp_cI (pc := 34) bk_363 bk_362 bk_361 bk_22 dX3_become_34 (by decide) (Nat.le_of_ble_eq_true rfl) eh10 (fun sz => ?_)
  refine sp_aload_n (pc := 37) dX3_become_37 1 rfl ?_
  obtain ⟨x11, ex11, hf⟩ := ob hf
  refine sp_gR (pc := 38) fl_RX3_15 dX3_become_38 ex11 ?_
  refine sp_iconst (pc := 41) (v := 0) dX3_become_41 (by decide) ?_
  refine sp_aload_n (pc := 42) dX3_become_42 0 rfl ?_
  obtain ⟨x12, ex12, hf⟩ := ob hf
  refine sp_gR (pc := 43) fl_RX3_15 dX3_become_43 ex12 ?_
  refine sp_iconst (pc := 46) (v := 0) dX3_become_46 (by decide) ?_
  refine sp_aload_n (pc := 47) dX3_become_47 0 rfl ?_
  obtain ⟨x13, ex13, hf⟩ := ob hf
  refine sp_gR (pc := 48) fl_RX3_15 dX3_become_48 ex13 ?_
  obtain ⟨x14, ex14, hf⟩ := ob hf
  refine sp_aN (pc := 51) dX3_become_51 ex14 ?_
  obtain ⟨h15, eh15, hf⟩ := ob hf
  refine sp_cI (pc := 52) bk_363 bk_362 bk_361 bk_22 dX3_become_52 (by decide) (Nat.le_of_ble_eq_true rfl) eh15 (fun sz => ?_)
  refine sp_aload_n (pc := 55) dX3_become_55 0 rfl ?_
  refine sp_aload_n (pc := 56) dX3_become_56 1 rfl ?_
  obtain ⟨x16, ex16, hf⟩ := ob hf
  refine sp_gI (pc := 57) fl_RX3_34 dX3_become_57 ex16 ?_
  obtain ⟨h17, eh17, hf⟩ := ob hf
  refine sp_pI (pc := 60) pf_RX3_34 dX3_become_60 eh17 (fun sz => ?_)
  refine sp_aload_n (pc := 63) dX3_become_63 0 rfl ?_
  refine sp_aload_n (pc := 64) dX3_become_64 1 rfl ?_
  obtain ⟨x18, ex18, hf⟩ := ob hf
  refine sp_gI (pc := 65) fl_RX3_38 dX3_become_65 ex18 ?_
  obtain ⟨h19, eh19, hf⟩ := ob hf
  refine sp_pI (pc := 68) pf_RX3_38 dX3_become_68 eh19 (fun sz => ?_)
  refine sp_aload_n (pc := 71) dX3_become_71 0 rfl ?_
  refine sp_aload_n (pc := 72) dX3_become_72 1 rfl ?_
  obtain ⟨x20, ex20, hf⟩ := ob hf
  refine sp_gI (pc := 73) fl_RX3_41 dX3_become_73 ex20 ?_
  obtain ⟨h21, eh21, hf⟩ := ob hf
  refine sp_pI (pc := 76) pf_RX3_41 dX3_become_76 eh21 (fun sz => ?_)
  refine sp_aload_n (pc := 79) dX3_become_79 0 rfl ?_
  refine sp_aload_n (pc := 80) dX3_become_80 1 rfl ?_
  obtain ⟨x22, ex22, hf⟩ := ob hf
  refine sp_gI (pc := 81) fl_RX3_44 dX3_become_81 ex22 ?_
  obtain ⟨h23, eh23, hf⟩ := ob hf
  refine sp_pI (pc := 84) pf_RX3_44 dX3_become_84 eh23 (fun sz => ?_)
  obtain rfl := Option.some.inj hf
  exact sp_return (pc := 87) dX3_become_87 rfl (hQ _)

theorem o_X3_become {h : HP} {v0 : Nat} {v1 : Nat} {res : HP} (hf : f_X3_become h v0 v1 = some res) : ∃ fs, h v0 = some (.inr (3, fs)) := by
  obtain ⟨u, eu, -⟩ := ob hf
  exact kO_spec eu

theorem m_X3_become {l : Launch} {Q : PST} {h : HP} {v0 : Nat} {v1 : Nat} {sz : Nat} {res : HP} (hQ : ∀ sz', Q (.inl none) res sz') (hf : f_X3_become h v0 v1 = some res) : MM l M_X3_become [.ref v0, .ref v1] h sz Q := by
  obtain ⟨u, eu, hf⟩ := ob hf
  exact MM_of wok_X3_become (by decide +kernel) (Nat.le_of_ble_eq_true rfl) ((w_X3_become_0 hQ hf))

theorem dX1_remember_0 : decode (mB M_X1_remember) 0 = .ok (.aload_n 0, 1) := by decide +kernel
theorem dX1_remember_1 : decode (mB M_X1_remember) 1 = .ok (.getfield 20, 3) := by decide +kernel
theorem dX1_remember_4 : decode (mB M_X1_remember) 4 = .ok (.bipush 14, 2) := by decide +kernel
theorem dX1_remember_6 : decode (mB M_X1_remember) 6 = .ok (.if_icmp .ne 26, 3) := by decide +kernel
theorem dX1_remember_9 : decode (mB M_X1_remember) 9 = .ok (.aload_n 0, 1) := by decide +kernel
theorem dX1_remember_10 : decode (mB M_X1_remember) 10 = .ok (.aload_n 0, 1) := by decide +kernel
theorem dX1_remember_11 : decode (mB M_X1_remember) 11 = .ok (.getfield 24, 3) := by decide +kernel
theorem dX1_remember_14 : decode (mB M_X1_remember) 14 = .ok (.iconst 1, 1) := by decide +kernel
theorem dX1_remember_15 : decode (mB M_X1_remember) 15 = .ok (.iadd, 1) := by decide +kernel
theorem dX1_remember_16 : decode (mB M_X1_remember) 16 = .ok (.bipush 14, 2) := by decide +kernel
theorem dX1_remember_18 : decode (mB M_X1_remember) 18 = .ok (.irem, 1) := by decide +kernel
theorem dX1_remember_19 : decode (mB M_X1_remember) 19 = .ok (.putfield 24, 3) := by decide +kernel
theorem dX1_remember_22 : decode (mB M_X1_remember) 22 = .ok (.aload_n 0, 1) := by decide +kernel
theorem dX1_remember_23 : decode (mB M_X1_remember) 23 = .ok (.dup, 1) := by decide +kernel
theorem dX1_remember_24 : decode (mB M_X1_remember) 24 = .ok (.getfield 20, 3) := by decide +kernel
theorem dX1_remember_27 : decode (mB M_X1_remember) 27 = .ok (.iconst 1, 1) := by decide +kernel
theorem dX1_remember_28 : decode (mB M_X1_remember) 28 = .ok (.isub, 1) := by decide +kernel
theorem dX1_remember_29 : decode (mB M_X1_remember) 29 = .ok (.putfield 20, 3) := by decide +kernel
theorem dX1_remember_32 : decode (mB M_X1_remember) 32 = .ok (.aload_n 0, 1) := by decide +kernel
theorem dX1_remember_33 : decode (mB M_X1_remember) 33 = .ok (.getfield 11, 3) := by decide +kernel
theorem dX1_remember_36 : decode (mB M_X1_remember) 36 = .ok (.aload_n 0, 1) := by decide +kernel
theorem dX1_remember_37 : decode (mB M_X1_remember) 37 = .ok (.getfield 24, 3) := by decide +kernel
theorem dX1_remember_40 : decode (mB M_X1_remember) 40 = .ok (.aload_n 0, 1) := by decide +kernel
theorem dX1_remember_41 : decode (mB M_X1_remember) 41 = .ok (.getfield 20, 3) := by decide +kernel
theorem dX1_remember_44 : decode (mB M_X1_remember) 44 = .ok (.iadd, 1) := by decide +kernel
theorem dX1_remember_45 : decode (mB M_X1_remember) 45 = .ok (.bipush 14, 2) := by decide +kernel
theorem dX1_remember_47 : decode (mB M_X1_remember) 47 = .ok (.irem, 1) := by decide +kernel
theorem dX1_remember_48 : decode (mB M_X1_remember) 48 = .ok (.aaload, 1) := by decide +kernel
theorem dX1_remember_49 : decode (mB M_X1_remember) 49 = .ok (.aload_n 1, 1) := by decide +kernel
theorem dX1_remember_50 : decode (mB M_X1_remember) 50 = .ok (.invokevirtual 27, 3) := by decide +kernel
theorem dX1_remember_53 : decode (mB M_X1_remember) 53 = .ok (.aload_n 0, 1) := by decide +kernel
theorem dX1_remember_54 : decode (mB M_X1_remember) 54 = .ok (.dup, 1) := by decide +kernel
theorem dX1_remember_55 : decode (mB M_X1_remember) 55 = .ok (.getfield 20, 3) := by decide +kernel
theorem dX1_remember_58 : decode (mB M_X1_remember) 58 = .ok (.iconst 1, 1) := by decide +kernel
theorem dX1_remember_59 : decode (mB M_X1_remember) 59 = .ok (.iadd, 1) := by decide +kernel
theorem dX1_remember_60 : decode (mB M_X1_remember) 60 = .ok (.putfield 20, 3) := by decide +kernel
theorem dX1_remember_63 : decode (mB M_X1_remember) 63 = .ok (.return_, 1) := by decide +kernel
def b_X1_remember_32 (v0 : Nat) (v1 : Nat) (h : HP) : Option (HP) :=
  (gR 1 0 h v0).bind fun x1 => (gI 1 1 h v0).bind fun x2 => (gI 1 2 h v0).bind fun x3 => (aR 4 h x1 (jrem (x2 + x3) 14)).bind fun x4 => (f_X3_become h x4 v1).bind fun y5 => (gI 1 2 y5 v0).bind fun x6 => (pI 1 2 y5 v0 (x6 + 1)).bind fun h7 => some h7
def b_X1_remember_0 (v0 : Nat) (v1 : Nat) (h : HP) : Option (HP) :=
  (gI 1 2 h v0).bind fun x1 => if x1 = 14 then (gI 1 1 h v0).bind fun x3 => (pI 1 1 h v0 (jrem (x3 + 1) 14)).bind fun h4 => (gI 1 2 h4 v0).bind fun x5 => (pI 1 2 h4 v0 (x5 - 1)).bind fun h6 => b_X1_remember_32 v0 v1 h6 else b_X1_remember_32 v0 v1 h
def f_X1_remember (h : HP) (v0 : Nat) (v1 : Nat) : Option (HP) := (kO 1 h v0).bind fun _ => b_X1_remember_0 v0 v1 h
theorem w_X1_remember_32 {l : Launch} {X : SCR} {Q : PST} {bc bs : Nat} {res : HP} {h : HP} (hQ : ∀ sz', Q (.inl none) res sz') {v0 : Nat} {v1 : Nat} {sz : Nat} (hf : b_X1_remember_32 v0 v1 h  = some res) : SP l X M_X1_remember 32 [(0, .ref v0), (1, .ref v1)] [] h sz bc bs Q := by
  rw [b_X1_remember_32] at hf
  refine sp_aload_n (pc := 32) dX1_remember_32 0 rfl ?_
  obtain ⟨x1, ex1, hf⟩ := ob hf
  refine sp_gR (pc := 33) fl_RX1_11 dX1_remember_33 ex1 ?_
  refine sp_aload_n (pc := 36) dX1_remember_36 0 rfl ?_
  obtain ⟨x2, ex2, hf⟩ := ob hf
  refine sp_gI (pc := 37) fl_RX1_24 dX1_remember_37 ex2 ?_
  refine sp_aload_n (pc := 40) dX1_remember_40 0 rfl ?_
  obtain ⟨x3, ex3, hf⟩ := ob hf
  refine sp_gI (pc := 41) fl_RX1_20 dX1_remember_41 ex3 ?_
  refine sp_iadd (pc := 44) dX1_remember_44 ?_
  refine sp_bipush (pc := 45) (v := 14) dX1_remember_45 (by decide) ?_
  refine sp_iremJ (pc := 47) dX1_remember_47 (by decide) ?_
  obtain ⟨x4, ex4, hf⟩ := ob hf
  refine sp_aR4 (pc := 48) dX1_remember_48 ex4 ?_
  refine sp_aload_n (pc := 49) dX1_remember_49 1 rfl ?_
  obtain ⟨y5, ey5, hf⟩ := ob hf
  obtain ⟨fsy5, hoy5⟩ := o_X3_become ey5
  refine sp_callVv (pc := 50) (z := M_X3_become) (As := [.ref v1]) (b := x4) (bc2 := bc) (bs2 := bs) (m_X3_become (Q := _) (fun sz => ⟨(), rfl, ?_⟩) ey5) rfl dX1_remember_50 hoy5 rfl rfl ck_X1_remember_27 (Nat.le_of_ble_eq_true rfl) rfl rfl rfl
  refine sp_aload_n (pc := 53) dX1_remember_53 0 rfl ?_
  refine sp_dup (pc := 54) dX1_remember_54 rfl ?_
  obtain ⟨x6, ex6, hf⟩ := ob hf
  refine sp_gI (pc := 55) fl_RX1_20 dX1_remember_55 ex6 ?_
  refine sp_iconst (pc := 58) (v := 1) dX1_remember_58 (by decide) ?_
  refine sp_iadd (pc := 59) dX1_remember_59 ?_
  obtain ⟨h7, eh7, hf⟩ := ob hf
  refine sp_pI (pc := 60) pf_RX1_20 dX1_remember_60 eh7 (fun sz => ?_)
  obtain rfl := Option.some.inj hf
  exact sp_return (pc := 63) dX1_remember_63 rfl (hQ _)

theorem w_X1_remember_0 {l : Launch} {X : SCR} {Q : PST} {bc bs : Nat} {res : HP} {h : HP} (hQ : ∀ sz', Q (.inl none) res sz') {v0 : Nat} {v1 : Nat} {sz : Nat} (hf : b_X1_remember_0 v0 v1 h  = some res) : SP l X M_X1_remember 0 [(0, .ref v0), (1, .ref v1)] [] h sz bc bs Q := by
  rw [b_X1_remember_0] at hf
  refine sp_aload_n (pc := 0) dX1_remember_0 0 rfl ?_
  obtain ⟨x1, ex1, hf⟩ := ob hf
  refine sp_gI (pc := 1) fl_RX1_20 dX1_remember_1 ex1 ?_
  refine sp_bipush (pc := 4) (v := 14) dX1_remember_4 (by decide) ?_
  refine sp_icmp_ne (pc := 6) (tgt := 32) dX1_remember_6 (by decide) (fun c2 => ?_) (fun c2 => ?_)
  · rw [if_neg c2] at hf
    exact (w_X1_remember_32 hQ hf)
  · rw [if_pos c2] at hf
    refine sp_aload_n (pc := 9) dX1_remember_9 0 rfl ?_
    refine sp_aload_n (pc := 10) dX1_remember_10 0 rfl ?_
    obtain ⟨x3, ex3, hf⟩ := ob hf
    refine sp_gI (pc := 11) fl_RX1_24 dX1_remember_11 ex3 ?_
    refine sp_iconst (pc := 14) (v := 1) dX1_remember_14 (by decide) ?_
    refine sp_iadd (pc := 15) dX1_remember_15 ?_
    refine sp_bipush (pc := 16) (v := 14) dX1_remember_16 (by decide) ?_
    refine sp_iremJ (pc := 18) dX1_remember_18 (by decide) ?_
    obtain ⟨h4, eh4, hf⟩ := ob hf
    refine sp_pI (pc := 19) pf_RX1_24 dX1_remember_19 eh4 (fun sz => ?_)
    refine sp_aload_n (pc := 22) dX1_remember_22 0 rfl ?_
    refine sp_dup (pc := 23) dX1_remember_23 rfl ?_
    obtain ⟨x5, ex5, hf⟩ := ob hf
    refine sp_gI (pc := 24) fl_RX1_20 dX1_remember_24 ex5 ?_
    refine sp_iconst (pc := 27) (v := 1) dX1_remember_27 (by decide) ?_
    refine sp_isub (pc := 28) dX1_remember_28 ?_
    obtain ⟨h6, eh6, hf⟩ := ob hf
    refine sp_pI (pc := 29) pf_RX1_20 dX1_remember_29 eh6 (fun sz => ?_)
    exact (w_X1_remember_32 hQ hf)

theorem o_X1_remember {h : HP} {v0 : Nat} {v1 : Nat} {res : HP} (hf : f_X1_remember h v0 v1 = some res) : ∃ fs, h v0 = some (.inr (1, fs)) := by
  obtain ⟨u, eu, -⟩ := ob hf
  exact kO_spec eu

theorem m_X1_remember {l : Launch} {Q : PST} {h : HP} {v0 : Nat} {v1 : Nat} {sz : Nat} {res : HP} (hQ : ∀ sz', Q (.inl none) res sz') (hf : f_X1_remember h v0 v1 = some res) : MM l M_X1_remember [.ref v0, .ref v1] h sz Q := by
  obtain ⟨u, eu, hf⟩ := ob hf
  exact MM_of wok_X1_remember (by decide +kernel) (Nat.le_of_ble_eq_true rfl) ((w_X1_remember_0 hQ hf))

theorem dX1_takeBack_0 : decode (mB M_X1_takeBack) 0 = .ok (.aload_n 0, 1) := by decide +kernel
theorem dX1_takeBack_1 : decode (mB M_X1_takeBack) 1 = .ok (.getfield 20, 3) := by decide +kernel
theorem dX1_takeBack_4 : decode (mB M_X1_takeBack) 4 = .ok (.ifCond .le 34, 3) := by decide +kernel
theorem dX1_takeBack_7 : decode (mB M_X1_takeBack) 7 = .ok (.aload_n 0, 1) := by decide +kernel
theorem dX1_takeBack_8 : decode (mB M_X1_takeBack) 8 = .ok (.dup, 1) := by decide +kernel
theorem dX1_takeBack_9 : decode (mB M_X1_takeBack) 9 = .ok (.getfield 20, 3) := by decide +kernel
theorem dX1_takeBack_12 : decode (mB M_X1_takeBack) 12 = .ok (.iconst 1, 1) := by decide +kernel
theorem dX1_takeBack_13 : decode (mB M_X1_takeBack) 13 = .ok (.isub, 1) := by decide +kernel
theorem dX1_takeBack_14 : decode (mB M_X1_takeBack) 14 = .ok (.putfield 20, 3) := by decide +kernel
theorem dX1_takeBack_17 : decode (mB M_X1_takeBack) 17 = .ok (.aload_n 1, 1) := by decide +kernel
theorem dX1_takeBack_18 : decode (mB M_X1_takeBack) 18 = .ok (.aload_n 0, 1) := by decide +kernel
theorem dX1_takeBack_19 : decode (mB M_X1_takeBack) 19 = .ok (.getfield 11, 3) := by decide +kernel
theorem dX1_takeBack_22 : decode (mB M_X1_takeBack) 22 = .ok (.aload_n 0, 1) := by decide +kernel
theorem dX1_takeBack_23 : decode (mB M_X1_takeBack) 23 = .ok (.getfield 24, 3) := by decide +kernel
theorem dX1_takeBack_26 : decode (mB M_X1_takeBack) 26 = .ok (.aload_n 0, 1) := by decide +kernel
theorem dX1_takeBack_27 : decode (mB M_X1_takeBack) 27 = .ok (.getfield 20, 3) := by decide +kernel
theorem dX1_takeBack_30 : decode (mB M_X1_takeBack) 30 = .ok (.iadd, 1) := by decide +kernel
theorem dX1_takeBack_31 : decode (mB M_X1_takeBack) 31 = .ok (.bipush 14, 2) := by decide +kernel
theorem dX1_takeBack_33 : decode (mB M_X1_takeBack) 33 = .ok (.irem, 1) := by decide +kernel
theorem dX1_takeBack_34 : decode (mB M_X1_takeBack) 34 = .ok (.aaload, 1) := by decide +kernel
theorem dX1_takeBack_35 : decode (mB M_X1_takeBack) 35 = .ok (.invokevirtual 27, 3) := by decide +kernel
theorem dX1_takeBack_38 : decode (mB M_X1_takeBack) 38 = .ok (.return_, 1) := by decide +kernel
def b_X1_takeBack_0 (v0 : Nat) (v1 : Nat) (h : HP) : Option (HP) :=
  (gI 1 2 h v0).bind fun x1 => if x1 ≤ 0 then some h else (gI 1 2 h v0).bind fun x3 => (pI 1 2 h v0 (x3 - 1)).bind fun h4 => (gR 1 0 h4 v0).bind fun x5 => (gI 1 1 h4 v0).bind fun x6 => (gI 1 2 h4 v0).bind fun x7 => (aR 4 h4 x5 (jrem (x6 + x7) 14)).bind fun x8 => (f_X3_become h4 v1 x8).bind fun y9 => some y9
def f_X1_takeBack (h : HP) (v0 : Nat) (v1 : Nat) : Option (HP) := (kO 1 h v0).bind fun _ => b_X1_takeBack_0 v0 v1 h
theorem w_X1_takeBack_0 {l : Launch} {X : SCR} {Q : PST} {bc bs : Nat} {res : HP} {h : HP} (hQ : ∀ sz', Q (.inl none) res sz') {v0 : Nat} {v1 : Nat} {sz : Nat} (hf : b_X1_takeBack_0 v0 v1 h  = some res) : SP l X M_X1_takeBack 0 [(0, .ref v0), (1, .ref v1)] [] h sz bc bs Q := by
  rw [b_X1_takeBack_0] at hf
  refine sp_aload_n (pc := 0) dX1_takeBack_0 0 rfl ?_
  obtain ⟨x1, ex1, hf⟩ := ob hf
  refine sp_gI (pc := 1) fl_RX1_20 dX1_takeBack_1 ex1 ?_
  refine sp_if_le (pc := 4) (tgt := 38) dX1_takeBack_4 (by decide) (fun c2 => ?_) (fun c2 => ?_)
  · rw [if_pos c2] at hf
    obtain rfl := Option.some.inj hf
    exact sp_return (pc := 38) dX1_takeBack_38 rfl (hQ _)
  · rw [if_neg c2] at hf
    refine sp_aload_n (pc := 7) dX1_takeBack_7 0 rfl ?_
    refine sp_dup (pc := 8) dX1_takeBack_8 rfl ?_
    obtain ⟨x3, ex3, hf⟩ := ob hf
    refine sp_gI (pc := 9) fl_RX1_20 dX1_takeBack_9 ex3 ?_
    refine sp_iconst (pc := 12) (v := 1) dX1_takeBack_12 (by decide) ?_
    refine sp_isub (pc := 13) dX1_takeBack_13 ?_
    obtain ⟨h4, eh4, hf⟩ := ob hf
    refine sp_pI (pc := 14) pf_RX1_20 dX1_takeBack_14 eh4 (fun sz => ?_)
    refine sp_aload_n (pc := 17) dX1_takeBack_17 1 rfl ?_
    refine sp_aload_n (pc := 18) dX1_takeBack_18 0 rfl ?_
    obtain ⟨x5, ex5, hf⟩ := ob hf
    refine sp_gR (pc := 19) fl_RX1_11 dX1_takeBack_19 ex5 ?_
    refine sp_aload_n (pc := 22) dX1_takeBack_22 0 rfl ?_
    obtain ⟨x6, ex6, hf⟩ := ob hf
    refine sp_gI (pc := 23) fl_RX1_24 dX1_takeBack_23 ex6 ?_
    refine sp_aload_n (pc := 26) dX1_takeBack_26 0 rfl ?_
    obtain ⟨x7, ex7, hf⟩ := ob hf
    refine sp_gI (pc := 27) fl_RX1_20 dX1_takeBack_27 ex7 ?_
    refine sp_iadd (pc := 30) dX1_takeBack_30 ?_
    refine sp_bipush (pc := 31) (v := 14) dX1_takeBack_31 (by decide) ?_
    refine sp_iremJ (pc := 33) dX1_takeBack_33 (by decide) ?_
    obtain ⟨x8, ex8, hf⟩ := ob hf
    refine sp_aR4 (pc := 34) dX1_takeBack_34 ex8 ?_
    obtain ⟨y9, ey9, hf⟩ := ob hf
    obtain ⟨fsy9, hoy9⟩ := o_X3_become ey9
    refine sp_callVv (pc := 35) (z := M_X3_become) (As := [.ref x8]) (b := v1) (bc2 := bc) (bs2 := bs) (m_X3_become (Q := _) (fun sz => ⟨(), rfl, ?_⟩) ey9) rfl dX1_takeBack_35 hoy9 rfl rfl ck_X1_takeBack_27 (Nat.le_of_ble_eq_true rfl) rfl rfl rfl
    obtain rfl := Option.some.inj hf
    exact sp_return (pc := 38) dX1_takeBack_38 rfl (hQ _)

theorem o_X1_takeBack {h : HP} {v0 : Nat} {v1 : Nat} {res : HP} (hf : f_X1_takeBack h v0 v1 = some res) : ∃ fs, h v0 = some (.inr (1, fs)) := by
  obtain ⟨u, eu, -⟩ := ob hf
  exact kO_spec eu

theorem m_X1_takeBack {l : Launch} {Q : PST} {h : HP} {v0 : Nat} {v1 : Nat} {sz : Nat} {res : HP} (hQ : ∀ sz', Q (.inl none) res sz') (hf : f_X1_takeBack h v0 v1 = some res) : MM l M_X1_takeBack [.ref v0, .ref v1] h sz Q := by
  obtain ⟨u, eu, hf⟩ := ob hf
  exact MM_of wok_X1_takeBack (by decide +kernel) (Nat.le_of_ble_eq_true rfl) ((w_X1_takeBack_0 hQ hf))

theorem dX3_size_0 : decode (mB M_X3_size) 0 = .ok (.aload_n 0, 1) := by decide +kernel
theorem dX3_size_1 : decode (mB M_X3_size) 1 = .ok (.getfield 27, 3) := by decide +kernel
theorem dX3_size_4 : decode (mB M_X3_size) 4 = .ok (.invokevirtual 47, 3) := by decide +kernel
theorem dX3_size_7 : decode (mB M_X3_size) 7 = .ok (.ireturn, 1) := by decide +kernel
def b_X3_size_0 (h : HP) (v0 : Nat) : Option (Int32) :=
  (gR 3 1 h v0).bind fun x1 => (f_X6_size h x1).bind fun y2 => some (y2)
def f_X3_size (h : HP) (v0 : Nat) : Option (Int32) := (kO 3 h v0).bind fun _ => b_X3_size_0 h v0
theorem w_X3_size_0 {l : Launch} {X : SCR} {Q : PST} {bc bs : Nat} {res : Int32} {h : HP} (hQ : ∀ sz', Q (.inl (some (.int res))) h sz') {v0 : Nat} {sz : Nat} (hf : b_X3_size_0 h v0  = some res) : SP l X M_X3_size 0 [(0, .ref v0)] [] h sz bc bs Q := by
  rw [b_X3_size_0] at hf
  refine sp_aload_n (pc := 0) dX3_size_0 0 rfl ?_
  obtain ⟨x1, ex1, hf⟩ := ob hf
  refine sp_gR (pc := 1) fl_RX3_27 dX3_size_1 ex1 ?_
  obtain ⟨y2, ey2, hf⟩ := ob hf
  obtain ⟨fsy2, hoy2⟩ := o_X6_size ey2
  refine sp_callVi (pc := 4) (z := M_X6_size) (As := []) (b := x1) (bc2 := bc) (bs2 := bs) (m_X6_size (Q := _) (fun sz => ⟨y2, rfl, ?_⟩) ey2) rfl dX3_size_4 hoy2 rfl rfl ck_X3_size_47 (Nat.le_of_ble_eq_true rfl) rfl rfl rfl
  obtain rfl := Option.some.inj hf
  exact sp_ireturn (pc := 7) dX3_size_7 rfl rfl (hQ _)

theorem o_X3_size {h : HP} {v0 : Nat} {res : Int32} (hf : f_X3_size h v0 = some res) : ∃ fs, h v0 = some (.inr (3, fs)) := by
  obtain ⟨u, eu, -⟩ := ob hf
  exact kO_spec eu

theorem m_X3_size {l : Launch} {Q : PST} {h : HP} {v0 : Nat} {sz : Nat} {res : Int32} (hQ : ∀ sz', Q (.inl (some (.int res))) h sz') (hf : f_X3_size h v0 = some res) : MM l M_X3_size [.ref v0] h sz Q := by
  obtain ⟨u, eu, hf⟩ := ob hf
  exact MM_of wok_X3_size (by decide +kernel) (Nat.le_of_ble_eq_true rfl) ((w_X3_size_0 hQ hf))

theorem dX3_isFull_0 : decode (mB M_X3_isFull) 0 = .ok (.aload_n 0, 1) := by decide +kernel
theorem dX3_isFull_1 : decode (mB M_X3_isFull) 1 = .ok (.getfield 27, 3) := by decide +kernel
theorem dX3_isFull_4 : decode (mB M_X3_isFull) 4 = .ok (.invokevirtual 47, 3) := by decide +kernel
theorem dX3_isFull_7 : decode (mB M_X3_isFull) 7 = .ok (.bipush 48, 2) := by decide +kernel
theorem dX3_isFull_9 : decode (mB M_X3_isFull) 9 = .ok (.if_icmp .lt 7, 3) := by decide +kernel
theorem dX3_isFull_12 : decode (mB M_X3_isFull) 12 = .ok (.iconst 1, 1) := by decide +kernel
theorem dX3_isFull_13 : decode (mB M_X3_isFull) 13 = .ok (.goto 4, 3) := by decide +kernel
theorem dX3_isFull_16 : decode (mB M_X3_isFull) 16 = .ok (.iconst 0, 1) := by decide +kernel
theorem dX3_isFull_17 : decode (mB M_X3_isFull) 17 = .ok (.ireturn, 1) := by decide +kernel
def b_X3_isFull_0 (h : HP) (v0 : Nat) : Option (Int32) :=
  (gR 3 1 h v0).bind fun x1 => (f_X6_size h x1).bind fun y2 => if y2 < 48 then some (0) else some (1)
def f_X3_isFull (h : HP) (v0 : Nat) : Option (Int32) := (kO 3 h v0).bind fun _ => b_X3_isFull_0 h v0
theorem w_X3_isFull_0 {l : Launch} {X : SCR} {Q : PST} {bc bs : Nat} {res : Int32} {h : HP} (hQ : ∀ sz', Q (.inl (some (.int res))) h sz') {v0 : Nat} {sz : Nat} (hf : b_X3_isFull_0 h v0  = some res) : SP l X M_X3_isFull 0 [(0, .ref v0)] [] h sz bc bs Q := by
  rw [b_X3_isFull_0] at hf
  refine sp_aload_n (pc := 0) dX3_isFull_0 0 rfl ?_
  obtain ⟨x1, ex1, hf⟩ := ob hf
  refine sp_gR (pc := 1) fl_RX3_27 dX3_isFull_1 ex1 ?_
  obtain ⟨y2, ey2, hf⟩ := ob hf
  obtain ⟨fsy2, hoy2⟩ := o_X6_size ey2
  refine sp_callVi (pc := 4) (z := M_X6_size) (As := []) (b := x1) (bc2 := bc) (bs2 := bs) (m_X6_size (Q := _) (fun sz => ⟨y2, rfl, ?_⟩) ey2) rfl dX3_isFull_4 hoy2 rfl rfl ck_X3_isFull_47 (Nat.le_of_ble_eq_true rfl) rfl rfl rfl
  refine sp_bipush (pc := 7) (v := 48) dX3_isFull_7 (by decide) ?_
  refine sp_icmp_lt (pc := 9) (tgt := 16) dX3_isFull_9 (by decide) (fun c3 => ?_) (fun c3 => ?_)
  · rw [if_pos c3] at hf
    refine sp_iconst (pc := 16) (v := 0) dX3_isFull_16 (by decide) ?_
    obtain rfl := Option.some.inj hf
    exact sp_ireturn (pc := 17) dX3_isFull_17 rfl rfl (hQ _)
  · rw [if_neg c3] at hf
    refine sp_iconst (pc := 12) (v := 1) dX3_isFull_12 (by decide) ?_
    refine sp_goto (pc := 13) (tgt := 17) dX3_isFull_13 (by decide) ?_
    obtain rfl := Option.some.inj hf
    exact sp_ireturn (pc := 17) dX3_isFull_17 rfl rfl (hQ _)

theorem o_X3_isFull {h : HP} {v0 : Nat} {res : Int32} (hf : f_X3_isFull h v0 = some res) : ∃ fs, h v0 = some (.inr (3, fs)) := by
  obtain ⟨u, eu, -⟩ := ob hf
  exact kO_spec eu

theorem m_X3_isFull {l : Launch} {Q : PST} {h : HP} {v0 : Nat} {sz : Nat} {res : Int32} (hQ : ∀ sz', Q (.inl (some (.int res))) h sz') (hf : f_X3_isFull h v0 = some res) : MM l M_X3_isFull [.ref v0] h sz Q := by
  obtain ⟨u, eu, hf⟩ := ob hf
  exact MM_of wok_X3_isFull (by decide +kernel) (Nat.le_of_ble_eq_true rfl) ((w_X3_isFull_0 hQ hf))

theorem dX3_eyes_0 : decode (mB M_X3_eyes) 0 = .ok (.aload_n 0, 1) := by decide +kernel
theorem dX3_eyes_1 : decode (mB M_X3_eyes) 1 = .ok (.getfield 38, 3) := by decide +kernel
theorem dX3_eyes_4 : decode (mB M_X3_eyes) 4 = .ok (.ireturn, 1) := by decide +kernel
def b_X3_eyes_0 (h : HP) (v0 : Nat) : Option (Int32) :=
  (gI 3 5 h v0).bind fun x1 => some (x1)
def f_X3_eyes (h : HP) (v0 : Nat) : Option (Int32) := (kO 3 h v0).bind fun _ => b_X3_eyes_0 h v0
theorem w_X3_eyes_0 {l : Launch} {X : SCR} {Q : PST} {bc bs : Nat} {res : Int32} {h : HP} (hQ : ∀ sz', Q (.inl (some (.int res))) h sz') {v0 : Nat} {sz : Nat} (hf : b_X3_eyes_0 h v0  = some res) : SP l X M_X3_eyes 0 [(0, .ref v0)] [] h sz bc bs Q := by
  rw [b_X3_eyes_0] at hf
  refine sp_aload_n (pc := 0) dX3_eyes_0 0 rfl ?_
  obtain ⟨x1, ex1, hf⟩ := ob hf
  refine sp_gI (pc := 1) fl_RX3_38 dX3_eyes_1 ex1 ?_
  obtain rfl := Option.some.inj hf
  exact sp_ireturn (pc := 4) dX3_eyes_4 rfl rfl (hQ _)

theorem o_X3_eyes {h : HP} {v0 : Nat} {res : Int32} (hf : f_X3_eyes h v0 = some res) : ∃ fs, h v0 = some (.inr (3, fs)) := by
  obtain ⟨u, eu, -⟩ := ob hf
  exact kO_spec eu

theorem m_X3_eyes {l : Launch} {Q : PST} {h : HP} {v0 : Nat} {sz : Nat} {res : Int32} (hQ : ∀ sz', Q (.inl (some (.int res))) h sz') (hf : f_X3_eyes h v0 = some res) : MM l M_X3_eyes [.ref v0] h sz Q := by
  obtain ⟨u, eu, hf⟩ := ob hf
  exact MM_of wok_X3_eyes (by decide +kernel) (Nat.le_of_ble_eq_true rfl) ((w_X3_eyes_0 hQ hf))

theorem dX3_latest_0 : decode (mB M_X3_latest) 0 = .ok (.aload_n 0, 1) := by decide +kernel
theorem dX3_latest_1 : decode (mB M_X3_latest) 1 = .ok (.getfield 41, 3) := by decide +kernel
theorem dX3_latest_4 : decode (mB M_X3_latest) 4 = .ok (.ireturn, 1) := by decide +kernel
def b_X3_latest_0 (h : HP) (v0 : Nat) : Option (Int32) :=
  (gI 3 6 h v0).bind fun x1 => some (x1)
def f_X3_latest (h : HP) (v0 : Nat) : Option (Int32) := (kO 3 h v0).bind fun _ => b_X3_latest_0 h v0
theorem w_X3_latest_0 {l : Launch} {X : SCR} {Q : PST} {bc bs : Nat} {res : Int32} {h : HP} (hQ : ∀ sz', Q (.inl (some (.int res))) h sz') {v0 : Nat} {sz : Nat} (hf : b_X3_latest_0 h v0  = some res) : SP l X M_X3_latest 0 [(0, .ref v0)] [] h sz bc bs Q := by
  rw [b_X3_latest_0] at hf
  refine sp_aload_n (pc := 0) dX3_latest_0 0 rfl ?_
  obtain ⟨x1, ex1, hf⟩ := ob hf
  refine sp_gI (pc := 1) fl_RX3_41 dX3_latest_1 ex1 ?_
  obtain rfl := Option.some.inj hf
  exact sp_ireturn (pc := 4) dX3_latest_4 rfl rfl (hQ _)

theorem o_X3_latest {h : HP} {v0 : Nat} {res : Int32} (hf : f_X3_latest h v0 = some res) : ∃ fs, h v0 = some (.inr (3, fs)) := by
  obtain ⟨u, eu, -⟩ := ob hf
  exact kO_spec eu

theorem m_X3_latest {l : Launch} {Q : PST} {h : HP} {v0 : Nat} {sz : Nat} {res : Int32} (hQ : ∀ sz', Q (.inl (some (.int res))) h sz') (hf : f_X3_latest h v0 = some res) : MM l M_X3_latest [.ref v0] h sz Q := by
  obtain ⟨u, eu, hf⟩ := ob hf
  exact MM_of wok_X3_latest (by decide +kernel) (Nat.le_of_ble_eq_true rfl) ((w_X3_latest_0 hQ hf))

theorem dX3_fewer_0 : decode (mB M_X3_fewer) 0 = .ok (.aload_n 0, 1) := by decide +kernel
theorem dX3_fewer_1 : decode (mB M_X3_fewer) 1 = .ok (.getfield 44, 3) := by decide +kernel
theorem dX3_fewer_4 : decode (mB M_X3_fewer) 4 = .ok (.ireturn, 1) := by decide +kernel
def b_X3_fewer_0 (h : HP) (v0 : Nat) : Option (Int32) :=
  (gI 3 7 h v0).bind fun x1 => some (x1)
def f_X3_fewer (h : HP) (v0 : Nat) : Option (Int32) := (kO 3 h v0).bind fun _ => b_X3_fewer_0 h v0
theorem w_X3_fewer_0 {l : Launch} {X : SCR} {Q : PST} {bc bs : Nat} {res : Int32} {h : HP} (hQ : ∀ sz', Q (.inl (some (.int res))) h sz') {v0 : Nat} {sz : Nat} (hf : b_X3_fewer_0 h v0  = some res) : SP l X M_X3_fewer 0 [(0, .ref v0)] [] h sz bc bs Q := by
  rw [b_X3_fewer_0] at hf
  refine sp_aload_n (pc := 0) dX3_fewer_0 0 rfl ?_
  obtain ⟨x1, ex1, hf⟩ := ob hf
  refine sp_gI (pc := 1) fl_RX3_44 dX3_fewer_1 ex1 ?_
  obtain rfl := Option.some.inj hf
  exact sp_ireturn (pc := 4) dX3_fewer_4 rfl rfl (hQ _)

theorem o_X3_fewer {h : HP} {v0 : Nat} {res : Int32} (hf : f_X3_fewer h v0 = some res) : ∃ fs, h v0 = some (.inr (3, fs)) := by
  obtain ⟨u, eu, -⟩ := ob hf
  exact kO_spec eu

theorem m_X3_fewer {l : Launch} {Q : PST} {h : HP} {v0 : Nat} {sz : Nat} {res : Int32} (hQ : ∀ sz', Q (.inl (some (.int res))) h sz') (hf : f_X3_fewer h v0 = some res) : MM l M_X3_fewer [.ref v0] h sz Q := by
  obtain ⟨u, eu, hf⟩ := ob hf
  exact MM_of wok_X3_fewer (by decide +kernel) (Nat.le_of_ble_eq_true rfl) ((w_X3_fewer_0 hQ hf))

theorem dX3_isRun_0 : decode (mB M_X3_isRun) 0 = .ok (.iload_n 1, 1) := by decide +kernel
theorem dX3_isRun_1 : decode (mB M_X3_isRun) 1 = .ok (.ifCond .lt 15, 3) := by decide +kernel
theorem dX3_isRun_4 : decode (mB M_X3_isRun) 4 = .ok (.iload_n 1, 1) := by decide +kernel
theorem dX3_isRun_5 : decode (mB M_X3_isRun) 5 = .ok (.aload_n 0, 1) := by decide +kernel
theorem dX3_isRun_6 : decode (mB M_X3_isRun) 6 = .ok (.getfield 34, 3) := by decide +kernel
theorem dX3_isRun_9 : decode (mB M_X3_isRun) 9 = .ok (.if_icmp .ge 7, 3) := by decide +kernel
theorem dX3_isRun_12 : decode (mB M_X3_isRun) 12 = .ok (.iconst 1, 1) := by decide +kernel
theorem dX3_isRun_13 : decode (mB M_X3_isRun) 13 = .ok (.goto 4, 3) := by decide +kernel
theorem dX3_isRun_16 : decode (mB M_X3_isRun) 16 = .ok (.iconst 0, 1) := by decide +kernel
theorem dX3_isRun_17 : decode (mB M_X3_isRun) 17 = .ok (.ireturn, 1) := by decide +kernel
def b_X3_isRun_0 (h : HP) (v0 : Nat) (v1 : Int32) : Option (Int32) :=
  if v1 < 0 then some (0) else (gI 3 4 h v0).bind fun x2 => if x2 ≤ v1 then some (0) else some (1)
def f_X3_isRun (h : HP) (v0 : Nat) (v1 : Int32) : Option (Int32) := (kO 3 h v0).bind fun _ => b_X3_isRun_0 h v0 v1
theorem w_X3_isRun_0 {l : Launch} {X : SCR} {Q : PST} {bc bs : Nat} {res : Int32} {h : HP} (hQ : ∀ sz', Q (.inl (some (.int res))) h sz') {v0 : Nat} {v1 : Int32} {sz : Nat} (hf : b_X3_isRun_0 h v0 v1  = some res) : SP l X M_X3_isRun 0 [(0, .ref v0), (1, .int v1)] [] h sz bc bs Q := by
  rw [b_X3_isRun_0] at hf
  refine sp_iload_n (pc := 0) dX3_isRun_0 1 rfl ?_
  refine sp_if_lt (pc := 1) (tgt := 16) dX3_isRun_1 (by decide) (fun c1 => ?_) (fun c1 => ?_)
  · rw [if_pos c1] at hf
    refine sp_iconst (pc := 16) (v := 0) dX3_isRun_16 (by decide) ?_
    obtain rfl := Option.some.inj hf
    exact sp_ireturn (pc := 17) dX3_isRun_17 rfl rfl (hQ _)
  · rw [if_neg c1] at hf
    refine sp_iload_n (pc := 4) dX3_isRun_4 1 rfl ?_
    refine sp_aload_n (pc := 5) dX3_isRun_5 0 rfl ?_
    obtain ⟨x2, ex2, hf⟩ := ob hf
    refine sp_gI (pc := 6) fl_RX3_34 dX3_isRun_6 ex2 ?_
    refine sp_icmp_ge (pc := 9) (tgt := 16) dX3_isRun_9 (by decide) (fun c3 => ?_) (fun c3 => ?_)
    · rw [if_pos c3] at hf
      refine sp_iconst (pc := 16) (v := 0) dX3_isRun_16 (by decide) ?_
      obtain rfl := Option.some.inj hf
      exact sp_ireturn (pc := 17) dX3_isRun_17 rfl rfl (hQ _)
    · rw [if_neg c3] at hf
      refine sp_iconst (pc := 12) (v := 1) dX3_isRun_12 (by decide) ?_
      refine sp_goto (pc := 13) (tgt := 17) dX3_isRun_13 (by decide) ?_
      obtain rfl := Option.some.inj hf
      exact sp_ireturn (pc := 17) dX3_isRun_17 rfl rfl (hQ _)

theorem o_X3_isRun {h : HP} {v0 : Nat} {v1 : Int32} {res : Int32} (hf : f_X3_isRun h v0 v1 = some res) : ∃ fs, h v0 = some (.inr (3, fs)) := by
  obtain ⟨u, eu, -⟩ := ob hf
  exact kO_spec eu

theorem m_X3_isRun {l : Launch} {Q : PST} {h : HP} {v0 : Nat} {v1 : Int32} {sz : Nat} {res : Int32} (hQ : ∀ sz', Q (.inl (some (.int res))) h sz') (hf : f_X3_isRun h v0 v1 = some res) : MM l M_X3_isRun [.ref v0, .int v1] h sz Q := by
  obtain ⟨u, eu, hf⟩ := ob hf
  exact MM_of wok_X3_isRun (by decide +kernel) (Nat.le_of_ble_eq_true rfl) ((w_X3_isRun_0 hQ hf))

theorem dX3_isPlace_0 : decode (mB M_X3_isPlace) 0 = .ok (.iload_n 1, 1) := by decide +kernel
theorem dX3_isPlace_1 : decode (mB M_X3_isPlace) 1 = .ok (.iconst (-1), 1) := by decide +kernel
theorem dX3_isPlace_2 : decode (mB M_X3_isPlace) 2 = .ok (.if_icmp .eq 11, 3) := by decide +kernel
theorem dX3_isPlace_5 : decode (mB M_X3_isPlace) 5 = .ok (.aload_n 0, 1) := by decide +kernel
theorem dX3_isPlace_6 : decode (mB M_X3_isPlace) 6 = .ok (.iload_n 1, 1) := by decide +kernel
theorem dX3_isPlace_7 : decode (mB M_X3_isPlace) 7 = .ok (.invokevirtual 61, 3) := by decide +kernel
theorem dX3_isPlace_10 : decode (mB M_X3_isPlace) 10 = .ok (.ifCond .eq 7, 3) := by decide +kernel
theorem dX3_isPlace_13 : decode (mB M_X3_isPlace) 13 = .ok (.iconst 1, 1) := by decide +kernel
theorem dX3_isPlace_14 : decode (mB M_X3_isPlace) 14 = .ok (.goto 4, 3) := by decide +kernel
theorem dX3_isPlace_17 : decode (mB M_X3_isPlace) 17 = .ok (.iconst 0, 1) := by decide +kernel
theorem dX3_isPlace_18 : decode (mB M_X3_isPlace) 18 = .ok (.ireturn, 1) := by decide +kernel
def b_X3_isPlace_0 (h : HP) (v0 : Nat) (v1 : Int32) : Option (Int32) :=
  if v1 = (-1) then some (1) else (f_X3_isRun h v0 v1).bind fun y2 => if y2 = 0 then some (0) else some (1)
def f_X3_isPlace (h : HP) (v0 : Nat) (v1 : Int32) : Option (Int32) := (kO 3 h v0).bind fun _ => b_X3_isPlace_0 h v0 v1
theorem w_X3_isPlace_0 {l : Launch} {X : SCR} {Q : PST} {bc bs : Nat} {res : Int32} {h : HP} (hQ : ∀ sz', Q (.inl (some (.int res))) h sz') {v0 : Nat} {v1 : Int32} {sz : Nat} (hf : b_X3_isPlace_0 h v0 v1  = some res) : SP l X M_X3_isPlace 0 [(0, .ref v0), (1, .int v1)] [] h sz bc bs Q := by
  rw [b_X3_isPlace_0] at hf
  refine sp_iload_n (pc := 0) dX3_isPlace_0 1 rfl ?_
  refine sp_iconst (pc := 1) (v := (-1)) dX3_isPlace_1 (by decide) ?_
  refine sp_icmp_eq (pc := 2) (tgt := 13) dX3_isPlace_2 (by decide) (fun c1 => ?_) (fun c1 => ?_)
  · rw [if_pos c1] at hf
    refine sp_iconst (pc := 13) (v := 1) dX3_isPlace_13 (by decide) ?_
    refine sp_goto (pc := 14) (tgt := 18) dX3_isPlace_14 (by decide) ?_
    obtain rfl := Option.some.inj hf
    exact sp_ireturn (pc := 18) dX3_isPlace_18 rfl rfl (hQ _)
  · rw [if_neg c1] at hf
    refine sp_aload_n (pc := 5) dX3_isPlace_5 0 rfl ?_
    refine sp_iload_n (pc := 6) dX3_isPlace_6 1 rfl ?_
    obtain ⟨y2, ey2, hf⟩ := ob hf
    obtain ⟨fsy2, hoy2⟩ := o_X3_isRun ey2
    refine sp_callVi (pc := 7) (z := M_X3_isRun) (As := [.int v1]) (b := v0) (bc2 := bc) (bs2 := bs) (m_X3_isRun (Q := _) (fun sz => ⟨y2, rfl, ?_⟩) ey2) rfl dX3_isPlace_7 hoy2 rfl rfl ck_X3_isPlace_61 (Nat.le_of_ble_eq_true rfl) rfl rfl rfl
    refine sp_if_eq (pc := 10) (tgt := 17) dX3_isPlace_10 (by decide) (fun c3 => ?_) (fun c3 => ?_)
    · rw [if_pos c3] at hf
      refine sp_iconst (pc := 17) (v := 0) dX3_isPlace_17 (by decide) ?_
      obtain rfl := Option.some.inj hf
      exact sp_ireturn (pc := 18) dX3_isPlace_18 rfl rfl (hQ _)
    · rw [if_neg c3] at hf
      refine sp_iconst (pc := 13) (v := 1) dX3_isPlace_13 (by decide) ?_
      refine sp_goto (pc := 14) (tgt := 18) dX3_isPlace_14 (by decide) ?_
      obtain rfl := Option.some.inj hf
      exact sp_ireturn (pc := 18) dX3_isPlace_18 rfl rfl (hQ _)

theorem o_X3_isPlace {h : HP} {v0 : Nat} {v1 : Int32} {res : Int32} (hf : f_X3_isPlace h v0 v1 = some res) : ∃ fs, h v0 = some (.inr (3, fs)) := by
  obtain ⟨u, eu, -⟩ := ob hf
  exact kO_spec eu

theorem m_X3_isPlace {l : Launch} {Q : PST} {h : HP} {v0 : Nat} {v1 : Int32} {sz : Nat} {res : Int32} (hQ : ∀ sz', Q (.inl (some (.int res))) h sz') (hf : f_X3_isPlace h v0 v1 = some res) : MM l M_X3_isPlace [.ref v0, .int v1] h sz Q := by
  obtain ⟨u, eu, hf⟩ := ob hf
  exact MM_of wok_X3_isPlace (by decide +kernel) (Nat.le_of_ble_eq_true rfl) ((w_X3_isPlace_0 hQ hf))

theorem dX3_sizeOf_0 : decode (mB M_X3_sizeOf) 0 = .ok (.aload_n 0, 1) := by decide +kernel
theorem dX3_sizeOf_1 : decode (mB M_X3_sizeOf) 1 = .ok (.iload_n 1, 1) := by decide +kernel
theorem dX3_sizeOf_2 : decode (mB M_X3_sizeOf) 2 = .ok (.invokevirtual 65, 3) := by decide +kernel
theorem dX3_sizeOf_5 : decode (mB M_X3_sizeOf) 5 = .ok (.aload_n 0, 1) := by decide +kernel
theorem dX3_sizeOf_6 : decode (mB M_X3_sizeOf) 6 = .ok (.iload_n 1, 1) := by decide +kernel
theorem dX3_sizeOf_7 : decode (mB M_X3_sizeOf) 7 = .ok (.invokevirtual 69, 3) := by decide +kernel
theorem dX3_sizeOf_10 : decode (mB M_X3_sizeOf) 10 = .ok (.isub, 1) := by decide +kernel
theorem dX3_sizeOf_11 : decode (mB M_X3_sizeOf) 11 = .ok (.ireturn, 1) := by decide +kernel
def b_X3_sizeOf_0 (h : HP) (v0 : Nat) (v1 : Int32) : Option (Int32) :=
  (f_X3_endOf h v0 v1).bind fun y1 => (f_X3_startOf h v0 v1).bind fun y2 => some (y1 - y2)
def f_X3_sizeOf (h : HP) (v0 : Nat) (v1 : Int32) : Option (Int32) := (kO 3 h v0).bind fun _ => b_X3_sizeOf_0 h v0 v1
theorem w_X3_sizeOf_0 {l : Launch} {X : SCR} {Q : PST} {bc bs : Nat} {res : Int32} {h : HP} (hQ : ∀ sz', Q (.inl (some (.int res))) h sz') {v0 : Nat} {v1 : Int32} {sz : Nat} (hf : b_X3_sizeOf_0 h v0 v1  = some res) : SP l X M_X3_sizeOf 0 [(0, .ref v0), (1, .int v1)] [] h sz bc bs Q := by
  rw [b_X3_sizeOf_0] at hf
  refine sp_aload_n (pc := 0) dX3_sizeOf_0 0 rfl ?_
  refine sp_iload_n (pc := 1) dX3_sizeOf_1 1 rfl ?_
  obtain ⟨y1, ey1, hf⟩ := ob hf
  obtain ⟨fsy1, hoy1⟩ := o_X3_endOf ey1
  refine sp_callVi (pc := 2) (z := M_X3_endOf) (As := [.int v1]) (b := v0) (bc2 := bc) (bs2 := bs) (m_X3_endOf (Q := _) (fun sz => ⟨y1, rfl, ?_⟩) ey1) rfl dX3_sizeOf_2 hoy1 rfl rfl ck_X3_sizeOf_65 (Nat.le_of_ble_eq_true rfl) rfl rfl rfl
  refine sp_aload_n (pc := 5) dX3_sizeOf_5 0 rfl ?_
  refine sp_iload_n (pc := 6) dX3_sizeOf_6 1 rfl ?_
  obtain ⟨y2, ey2, hf⟩ := ob hf
  obtain ⟨fsy2, hoy2⟩ := o_X3_startOf ey2
  refine sp_callVi (pc := 7) (z := M_X3_startOf) (As := [.int v1]) (b := v0) (bc2 := bc) (bs2 := bs) (m_X3_startOf (Q := _) (fun sz => ⟨y2, rfl, ?_⟩) ey2) rfl dX3_sizeOf_7 hoy2 rfl rfl ck_X3_sizeOf_69 (Nat.le_of_ble_eq_true rfl) rfl rfl rfl
  refine sp_isub (pc := 10) dX3_sizeOf_10 ?_
  obtain rfl := Option.some.inj hf
  exact sp_ireturn (pc := 11) dX3_sizeOf_11 rfl rfl (hQ _)

theorem o_X3_sizeOf {h : HP} {v0 : Nat} {v1 : Int32} {res : Int32} (hf : f_X3_sizeOf h v0 v1 = some res) : ∃ fs, h v0 = some (.inr (3, fs)) := by
  obtain ⟨u, eu, -⟩ := ob hf
  exact kO_spec eu

theorem m_X3_sizeOf {l : Launch} {Q : PST} {h : HP} {v0 : Nat} {v1 : Int32} {sz : Nat} {res : Int32} (hQ : ∀ sz', Q (.inl (some (.int res))) h sz') (hf : f_X3_sizeOf h v0 v1 = some res) : MM l M_X3_sizeOf [.ref v0, .int v1] h sz Q := by
  obtain ⟨u, eu, hf⟩ := ob hf
  exact MM_of wok_X3_sizeOf (by decide +kernel) (Nat.le_of_ble_eq_true rfl) ((w_X3_sizeOf_0 hQ hf))

theorem dX3_entriesIn_0 : decode (mB M_X3_entriesIn) 0 = .ok (.iconst 0, 1) := by decide +kernel
theorem dX3_entriesIn_1 : decode (mB M_X3_entriesIn) 1 = .ok (.istore_n 3, 1) := by decide +kernel
theorem dX3_entriesIn_2 : decode (mB M_X3_entriesIn) 2 = .ok (.iload_n 1, 1) := by decide +kernel
theorem dX3_entriesIn_3 : decode (mB M_X3_entriesIn) 3 = .ok (.istore 4, 2) := by decide +kernel
theorem dX3_entriesIn_5 : decode (mB M_X3_entriesIn) 5 = .ok (.iload 4, 2) := by decide +kernel
theorem dX3_entriesIn_7 : decode (mB M_X3_entriesIn) 7 = .ok (.iload_n 2, 1) := by decide +kernel
theorem dX3_entriesIn_8 : decode (mB M_X3_entriesIn) 8 = .ok (.if_icmp .ge 24, 3) := by decide +kernel
theorem dX3_entriesIn_11 : decode (mB M_X3_entriesIn) 11 = .ok (.aload_n 0, 1) := by decide +kernel
theorem dX3_entriesIn_12 : decode (mB M_X3_entriesIn) 12 = .ok (.getfield 27, 3) := by decide +kernel
theorem dX3_entriesIn_15 : decode (mB M_X3_entriesIn) 15 = .ok (.iload 4, 2) := by decide +kernel
theorem dX3_entriesIn_17 : decode (mB M_X3_entriesIn) 17 = .ok (.invokevirtual 72, 3) := by decide +kernel
theorem dX3_entriesIn_20 : decode (mB M_X3_entriesIn) 20 = .ok (.ifCond .eq 6, 3) := by decide +kernel
theorem dX3_entriesIn_23 : decode (mB M_X3_entriesIn) 23 = .ok (.iinc 3 1, 3) := by decide +kernel
theorem dX3_entriesIn_26 : decode (mB M_X3_entriesIn) 26 = .ok (.iinc 4 1, 3) := by decide +kernel
theorem dX3_entriesIn_29 : decode (mB M_X3_entriesIn) 29 = .ok (.goto (-24), 3) := by decide +kernel
theorem dX3_entriesIn_32 : decode (mB M_X3_entriesIn) 32 = .ok (.iload_n 3, 1) := by decide +kernel
theorem dX3_entriesIn_33 : decode (mB M_X3_entriesIn) 33 = .ok (.ireturn, 1) := by decide +kernel
def c_X3_entriesIn_5 (h : HP) (v0 : Nat) (v2 : Int32) (k5 : Int32 → Int32 → Option (Int32)) (v3 : Int32) (v4 : Int32) : Option (Int32) :=
  if v2 ≤ v4 then some (v3) else (gR 3 1 h v0).bind fun x2 => (f_X6_isEntry h x2 v4).bind fun y3 => if y3 = 0 then k5 v3 (v4 + 1) else k5 (v3 + 1) (v4 + 1)
def b_X3_entriesIn_5 (h : HP) (v0 : Nat) (v2 : Int32) : Nat → Int32 → Int32 → Option (Int32)
  | 0, _, _ => none
  | n + 1, v3, v4 => c_X3_entriesIn_5 h v0 v2 (b_X3_entriesIn_5 h v0 v2 n) v3 v4
def b_X3_entriesIn_0 (h : HP) (v0 : Nat) (v1 : Int32) (v2 : Int32) : Option (Int32) :=
  b_X3_entriesIn_5 h v0 v2 FU 0 v1
def f_X3_entriesIn (h : HP) (v0 : Nat) (v1 : Int32) (v2 : Int32) : Option (Int32) := (kO 3 h v0).bind fun _ => b_X3_entriesIn_0 h v0 v1 v2
theorem wc_X3_entriesIn_5 {l : Launch} {X : SCR} {Q : PST} {bc bs : Nat} {res : Int32} {h : HP} (hQ : ∀ sz', Q (.inl (some (.int res))) h sz') {v0 : Nat} {v2 : Int32} {k5 : Int32 → Int32 → Option (Int32)} (hk5 : ∀ (v3 : Int32) (v4 : Int32) (sz : Nat), k5 v3 v4 = some res → SP l X M_X3_entriesIn 5 [(0, .ref v0), (2, .int v2), (3, .int v3), (4, .int v4)] [] h sz bc bs Q) {v3 : Int32} {v4 : Int32} {sz : Nat} (hf : c_X3_entriesIn_5 h v0 v2 k5 v3 v4 = some res) : SP l X M_X3_entriesIn 5 [(0, .ref v0), (2, .int v2), (3, .int v3), (4, .int v4)] [] h sz bc bs Q := by
  rw [c_X3_entriesIn_5] at hf
  refine sp_iload (pc := 5) dX3_entriesIn_5 3 rfl ?_
  refine sp_iload_n (pc := 7) dX3_entriesIn_7 1 rfl ?_
  refine sp_icmp_ge (pc := 8) (tgt := 32) dX3_entriesIn_8 (by decide) (fun c1 => ?_) (fun c1 => ?_)
  · rw [if_pos c1] at hf
    refine sp_iload_n (pc := 32) dX3_entriesIn_32 2 rfl ?_
    obtain rfl := Option.some.inj hf
    exact sp_ireturn (pc := 33) dX3_entriesIn_33 rfl rfl (hQ _)
  · rw [if_neg c1] at hf
    refine sp_aload_n (pc := 11) dX3_entriesIn_11 0 rfl ?_
    obtain ⟨x2, ex2, hf⟩ := ob hf
    refine sp_gR (pc := 12) fl_RX3_27 dX3_entriesIn_12 ex2 ?_
    refine sp_iload (pc := 15) dX3_entriesIn_15 3 rfl ?_
    obtain ⟨y3, ey3, hf⟩ := ob hf
    obtain ⟨fsy3, hoy3⟩ := o_X6_isEntry ey3
    refine sp_callVi (pc := 17) (z := M_X6_isEntry) (As := [.int v4]) (b := x2) (bc2 := bc) (bs2 := bs) (m_X6_isEntry (Q := _) (fun sz => ⟨y3, rfl, ?_⟩) ey3) rfl dX3_entriesIn_17 hoy3 rfl rfl ck_X3_entriesIn_72 (Nat.le_of_ble_eq_true rfl) rfl rfl rfl
    refine sp_if_eq (pc := 20) (tgt := 26) dX3_entriesIn_20 (by decide) (fun c4 => ?_) (fun c4 => ?_)
    · rw [if_pos c4] at hf
      refine sp_iinc (pc := 26) (v := v4 + 1) (lv' := [(4, .int (v4 + 1)), (0, .ref v0), (2, .int v2), (3, .int v3)]) dX3_entriesIn_26 3 rfl rfl (by decide) rfl ?_
      refine sp_goto (pc := 29) (tgt := 5) dX3_entriesIn_29 (by decide) ?_
      exact sp_sub [1, 2, 3, 0] rfl (hk5 _ _ _ hf)
    · rw [if_neg c4] at hf
      refine sp_iinc (pc := 23) (v := v3 + 1) (lv' := [(3, .int (v3 + 1)), (0, .ref v0), (2, .int v2), (4, .int v4)]) dX3_entriesIn_23 2 rfl rfl (by decide) rfl ?_
      refine sp_iinc (pc := 26) (v := v4 + 1) (lv' := [(4, .int (v4 + 1)), (3, .int (v3 + 1)), (0, .ref v0), (2, .int v2)]) dX3_entriesIn_26 3 rfl rfl (by decide) rfl ?_
      refine sp_goto (pc := 29) (tgt := 5) dX3_entriesIn_29 (by decide) ?_
      exact sp_sub [2, 3, 1, 0] rfl (hk5 _ _ _ hf)

theorem w_X3_entriesIn_5 {l : Launch} {X : SCR} {Q : PST} {bc bs : Nat} {res : Int32} {h : HP} (hQ : ∀ sz', Q (.inl (some (.int res))) h sz') {v0 : Nat} {v2 : Int32} : ∀ (n : Nat) {v3 : Int32} {v4 : Int32} {sz : Nat}, b_X3_entriesIn_5 h v0 v2 n v3 v4 = some res → SP l X M_X3_entriesIn 5 [(0, .ref v0), (2, .int v2), (3, .int v3), (4, .int v4)] [] h sz bc bs Q := by
  intro n
  induction n with
  | zero =>
    intro v3 v4 sz hf
    rw [b_X3_entriesIn_5] at hf
    cases hf
  | succ n ih =>
    intro v3 v4 sz hf
    rw [b_X3_entriesIn_5] at hf
    exact wc_X3_entriesIn_5 hQ (fun v3 v4 sz hf => ih hf) hf

theorem w_X3_entriesIn_0 {l : Launch} {X : SCR} {Q : PST} {bc bs : Nat} {res : Int32} {h : HP} (hQ : ∀ sz', Q (.inl (some (.int res))) h sz') {v0 : Nat} {v1 : Int32} {v2 : Int32} {sz : Nat} (hf : b_X3_entriesIn_0 h v0 v1 v2  = some res) : SP l X M_X3_entriesIn 0 [(0, .ref v0), (1, .int v1), (2, .int v2)] [] h sz bc bs Q := by
  rw [b_X3_entriesIn_0] at hf
  refine sp_iconst (pc := 0) (v := 0) dX3_entriesIn_0 (by decide) ?_
  refine sp_istore_n (pc := 1) (lv' := [(3, .int 0), (0, .ref v0), (1, .int v1), (2, .int v2)]) dX3_entriesIn_1 (by decide) rfl ?_
  refine sp_iload_n (pc := 2) dX3_entriesIn_2 2 rfl ?_
  refine sp_istore (pc := 3) (lv' := [(4, .int v1), (3, .int 0), (0, .ref v0), (1, .int v1), (2, .int v2)]) dX3_entriesIn_3 (by decide) rfl ?_
  exact sp_sub [2, 4, 1, 0] rfl (w_X3_entriesIn_5 hQ FU hf)

theorem o_X3_entriesIn {h : HP} {v0 : Nat} {v1 : Int32} {v2 : Int32} {res : Int32} (hf : f_X3_entriesIn h v0 v1 v2 = some res) : ∃ fs, h v0 = some (.inr (3, fs)) := by
  obtain ⟨u, eu, -⟩ := ob hf
  exact kO_spec eu

theorem m_X3_entriesIn {l : Launch} {Q : PST} {h : HP} {v0 : Nat} {v1 : Int32} {v2 : Int32} {sz : Nat} {res : Int32} (hQ : ∀ sz', Q (.inl (some (.int res))) h sz') (hf : f_X3_entriesIn h v0 v1 v2 = some res) : MM l M_X3_entriesIn [.ref v0, .int v1, .int v2] h sz Q := by
  obtain ⟨u, eu, hf⟩ := ob hf
  exact MM_of wok_X3_entriesIn (by decide +kernel) (Nat.le_of_ble_eq_true rfl) ((w_X3_entriesIn_0 hQ hf))

theorem dX3_isEye_0 : decode (mB M_X3_isEye) 0 = .ok (.iload_n 1, 1) := by decide +kernel
theorem dX3_isEye_1 : decode (mB M_X3_isEye) 1 = .ok (.ifCond .lt 15, 3) := by decide +kernel
theorem dX3_isEye_4 : decode (mB M_X3_isEye) 4 = .ok (.iload_n 1, 1) := by decide +kernel
theorem dX3_isEye_5 : decode (mB M_X3_isEye) 5 = .ok (.aload_n 0, 1) := by decide +kernel
theorem dX3_isEye_6 : decode (mB M_X3_isEye) 6 = .ok (.getfield 38, 3) := by decide +kernel
theorem dX3_isEye_9 : decode (mB M_X3_isEye) 9 = .ok (.if_icmp .ge 7, 3) := by decide +kernel
theorem dX3_isEye_12 : decode (mB M_X3_isEye) 12 = .ok (.iconst 1, 1) := by decide +kernel
theorem dX3_isEye_13 : decode (mB M_X3_isEye) 13 = .ok (.goto 4, 3) := by decide +kernel
theorem dX3_isEye_16 : decode (mB M_X3_isEye) 16 = .ok (.iconst 0, 1) := by decide +kernel
theorem dX3_isEye_17 : decode (mB M_X3_isEye) 17 = .ok (.ireturn, 1) := by decide +kernel
def b_X3_isEye_0 (h : HP) (v0 : Nat) (v1 : Int32) : Option (Int32) :=
  if v1 < 0 then some (0) else (gI 3 5 h v0).bind fun x2 => if x2 ≤ v1 then some (0) else some (1)
def f_X3_isEye (h : HP) (v0 : Nat) (v1 : Int32) : Option (Int32) := (kO 3 h v0).bind fun _ => b_X3_isEye_0 h v0 v1
theorem w_X3_isEye_0 {l : Launch} {X : SCR} {Q : PST} {bc bs : Nat} {res : Int32} {h : HP} (hQ : ∀ sz', Q (.inl (some (.int res))) h sz') {v0 : Nat} {v1 : Int32} {sz : Nat} (hf : b_X3_isEye_0 h v0 v1  = some res) : SP l X M_X3_isEye 0 [(0, .ref v0), (1, .int v1)] [] h sz bc bs Q := by
  rw [b_X3_isEye_0] at hf
  refine sp_iload_n (pc := 0) dX3_isEye_0 1 rfl ?_
  refine sp_if_lt (pc := 1) (tgt := 16) dX3_isEye_1 (by decide) (fun c1 => ?_) (fun c1 => ?_)
  · rw [if_pos c1] at hf
    refine sp_iconst (pc := 16) (v := 0) dX3_isEye_16 (by decide) ?_
    obtain rfl := Option.some.inj hf
    exact sp_ireturn (pc := 17) dX3_isEye_17 rfl rfl (hQ _)
  · rw [if_neg c1] at hf
    refine sp_iload_n (pc := 4) dX3_isEye_4 1 rfl ?_
    refine sp_aload_n (pc := 5) dX3_isEye_5 0 rfl ?_
    obtain ⟨x2, ex2, hf⟩ := ob hf
    refine sp_gI (pc := 6) fl_RX3_38 dX3_isEye_6 ex2 ?_
    refine sp_icmp_ge (pc := 9) (tgt := 16) dX3_isEye_9 (by decide) (fun c3 => ?_) (fun c3 => ?_)
    · rw [if_pos c3] at hf
      refine sp_iconst (pc := 16) (v := 0) dX3_isEye_16 (by decide) ?_
      obtain rfl := Option.some.inj hf
      exact sp_ireturn (pc := 17) dX3_isEye_17 rfl rfl (hQ _)
    · rw [if_neg c3] at hf
      refine sp_iconst (pc := 12) (v := 1) dX3_isEye_12 (by decide) ?_
      refine sp_goto (pc := 13) (tgt := 17) dX3_isEye_13 (by decide) ?_
      obtain rfl := Option.some.inj hf
      exact sp_ireturn (pc := 17) dX3_isEye_17 rfl rfl (hQ _)

theorem o_X3_isEye {h : HP} {v0 : Nat} {v1 : Int32} {res : Int32} (hf : f_X3_isEye h v0 v1 = some res) : ∃ fs, h v0 = some (.inr (3, fs)) := by
  obtain ⟨u, eu, -⟩ := ob hf
  exact kO_spec eu

theorem m_X3_isEye {l : Launch} {Q : PST} {h : HP} {v0 : Nat} {v1 : Int32} {sz : Nat} {res : Int32} (hQ : ∀ sz', Q (.inl (some (.int res))) h sz') (hf : f_X3_isEye h v0 v1 = some res) : MM l M_X3_isEye [.ref v0, .int v1] h sz Q := by
  obtain ⟨u, eu, hf⟩ := ob hf
  exact MM_of wok_X3_isEye (by decide +kernel) (Nat.le_of_ble_eq_true rfl) ((w_X3_isEye_0 hQ hf))

theorem dX3_isView_0 : decode (mB M_X3_isView) 0 = .ok (.iload_n 1, 1) := by decide +kernel
theorem dX3_isView_1 : decode (mB M_X3_isView) 1 = .ok (.iconst (-1), 1) := by decide +kernel
theorem dX3_isView_2 : decode (mB M_X3_isView) 2 = .ok (.if_icmp .eq 11, 3) := by decide +kernel
theorem dX3_isView_5 : decode (mB M_X3_isView) 5 = .ok (.aload_n 0, 1) := by decide +kernel
theorem dX3_isView_6 : decode (mB M_X3_isView) 6 = .ok (.iload_n 1, 1) := by decide +kernel
theorem dX3_isView_7 : decode (mB M_X3_isView) 7 = .ok (.invokevirtual 89, 3) := by decide +kernel
theorem dX3_isView_10 : decode (mB M_X3_isView) 10 = .ok (.ifCond .eq 7, 3) := by decide +kernel
theorem dX3_isView_13 : decode (mB M_X3_isView) 13 = .ok (.iconst 1, 1) := by decide +kernel
theorem dX3_isView_14 : decode (mB M_X3_isView) 14 = .ok (.goto 4, 3) := by decide +kernel
theorem dX3_isView_17 : decode (mB M_X3_isView) 17 = .ok (.iconst 0, 1) := by decide +kernel
theorem dX3_isView_18 : decode (mB M_X3_isView) 18 = .ok (.ireturn, 1) := by decide +kernel
def b_X3_isView_0 (h : HP) (v0 : Nat) (v1 : Int32) : Option (Int32) :=
  if v1 = (-1) then some (1) else (f_X3_isEye h v0 v1).bind fun y2 => if y2 = 0 then some (0) else some (1)
def f_X3_isView (h : HP) (v0 : Nat) (v1 : Int32) : Option (Int32) := (kO 3 h v0).bind fun _ => b_X3_isView_0 h v0 v1
theorem w_X3_isView_0 {l : Launch} {X : SCR} {Q : PST} {bc bs : Nat} {res : Int32} {h : HP} (hQ : ∀ sz', Q (.inl (some (.int res))) h sz') {v0 : Nat} {v1 : Int32} {sz : Nat} (hf : b_X3_isView_0 h v0 v1  = some res) : SP l X M_X3_isView 0 [(0, .ref v0), (1, .int v1)] [] h sz bc bs Q := by
  rw [b_X3_isView_0] at hf
  refine sp_iload_n (pc := 0) dX3_isView_0 1 rfl ?_
  refine sp_iconst (pc := 1) (v := (-1)) dX3_isView_1 (by decide) ?_
  refine sp_icmp_eq (pc := 2) (tgt := 13) dX3_isView_2 (by decide) (fun c1 => ?_) (fun c1 => ?_)
  · rw [if_pos c1] at hf
    refine sp_iconst (pc := 13) (v := 1) dX3_isView_13 (by decide) ?_
    refine sp_goto (pc := 14) (tgt := 18) dX3_isView_14 (by decide) ?_
    obtain rfl := Option.some.inj hf
    exact sp_ireturn (pc := 18) dX3_isView_18 rfl rfl (hQ _)
  · rw [if_neg c1] at hf
    refine sp_aload_n (pc := 5) dX3_isView_5 0 rfl ?_
    refine sp_iload_n (pc := 6) dX3_isView_6 1 rfl ?_
    obtain ⟨y2, ey2, hf⟩ := ob hf
    obtain ⟨fsy2, hoy2⟩ := o_X3_isEye ey2
    refine sp_callVi (pc := 7) (z := M_X3_isEye) (As := [.int v1]) (b := v0) (bc2 := bc) (bs2 := bs) (m_X3_isEye (Q := _) (fun sz => ⟨y2, rfl, ?_⟩) ey2) rfl dX3_isView_7 hoy2 rfl rfl ck_X3_isView_89 (Nat.le_of_ble_eq_true rfl) rfl rfl rfl
    refine sp_if_eq (pc := 10) (tgt := 17) dX3_isView_10 (by decide) (fun c3 => ?_) (fun c3 => ?_)
    · rw [if_pos c3] at hf
      refine sp_iconst (pc := 17) (v := 0) dX3_isView_17 (by decide) ?_
      obtain rfl := Option.some.inj hf
      exact sp_ireturn (pc := 18) dX3_isView_18 rfl rfl (hQ _)
    · rw [if_neg c3] at hf
      refine sp_iconst (pc := 13) (v := 1) dX3_isView_13 (by decide) ?_
      refine sp_goto (pc := 14) (tgt := 18) dX3_isView_14 (by decide) ?_
      obtain rfl := Option.some.inj hf
      exact sp_ireturn (pc := 18) dX3_isView_18 rfl rfl (hQ _)

theorem o_X3_isView {h : HP} {v0 : Nat} {v1 : Int32} {res : Int32} (hf : f_X3_isView h v0 v1 = some res) : ∃ fs, h v0 = some (.inr (3, fs)) := by
  obtain ⟨u, eu, -⟩ := ob hf
  exact kO_spec eu

theorem m_X3_isView {l : Launch} {Q : PST} {h : HP} {v0 : Nat} {v1 : Int32} {sz : Nat} {res : Int32} (hQ : ∀ sz', Q (.inl (some (.int res))) h sz') (hf : f_X3_isView h v0 v1 = some res) : MM l M_X3_isView [.ref v0, .int v1] h sz Q := by
  obtain ⟨u, eu, hf⟩ := ob hf
  exact MM_of wok_X3_isView (by decide +kernel) (Nat.le_of_ble_eq_true rfl) ((w_X3_isView_0 hQ hf))

theorem dX3_limitOf_0 : decode (mB M_X3_limitOf) 0 = .ok (.aload_n 0, 1) := by decide +kernel
theorem dX3_limitOf_1 : decode (mB M_X3_limitOf) 1 = .ok (.iload_n 1, 1) := by decide +kernel
theorem dX3_limitOf_2 : decode (mB M_X3_limitOf) 2 = .ok (.invokevirtual 89, 3) := by decide +kernel
theorem dX3_limitOf_5 : decode (mB M_X3_limitOf) 5 = .ok (.ifCond .eq 12, 3) := by decide +kernel
theorem dX3_limitOf_8 : decode (mB M_X3_limitOf) 8 = .ok (.aload_n 0, 1) := by decide +kernel
theorem dX3_limitOf_9 : decode (mB M_X3_limitOf) 9 = .ok (.getfield 15, 3) := by decide +kernel
theorem dX3_limitOf_12 : decode (mB M_X3_limitOf) 12 = .ok (.iload_n 1, 1) := by decide +kernel
theorem dX3_limitOf_13 : decode (mB M_X3_limitOf) 13 = .ok (.iaload, 1) := by decide +kernel
theorem dX3_limitOf_14 : decode (mB M_X3_limitOf) 14 = .ok (.goto 7, 3) := by decide +kernel
theorem dX3_limitOf_17 : decode (mB M_X3_limitOf) 17 = .ok (.aload_n 0, 1) := by decide +kernel
theorem dX3_limitOf_18 : decode (mB M_X3_limitOf) 18 = .ok (.getfield 41, 3) := by decide +kernel
theorem dX3_limitOf_21 : decode (mB M_X3_limitOf) 21 = .ok (.ireturn, 1) := by decide +kernel
def b_X3_limitOf_0 (h : HP) (v0 : Nat) (v1 : Int32) : Option (Int32) :=
  (f_X3_isEye h v0 v1).bind fun y1 => if y1 = 0 then (gI 3 6 h v0).bind fun x3 => some (x3) else (gR 3 3 h v0).bind fun x4 => (aI h x4 v1).bind fun x5 => some (x5)
def f_X3_limitOf (h : HP) (v0 : Nat) (v1 : Int32) : Option (Int32) := (kO 3 h v0).bind fun _ => b_X3_limitOf_0 h v0 v1
theorem w_X3_limitOf_0 {l : Launch} {X : SCR} {Q : PST} {bc bs : Nat} {res : Int32} {h : HP} (hQ : ∀ sz', Q (.inl (some (.int res))) h sz') {v0 : Nat} {v1 : Int32} {sz : Nat} (hf : b_X3_limitOf_0 h v0 v1  = some res) : SP l X M_X3_limitOf 0 [(0, .ref v0), (1, .int v1)] [] h sz bc bs Q := by
  rw [b_X3_limitOf_0] at hf
  refine sp_aload_n (pc := 0) dX3_limitOf_0 0 rfl ?_
  refine sp_iload_n (pc := 1) dX3_limitOf_1 1 rfl ?_
  obtain ⟨y1, ey1, hf⟩ := ob hf
  obtain ⟨fsy1, hoy1⟩ := o_X3_isEye ey1
  refine sp_callVi (pc := 2) (z := M_X3_isEye) (As := [.int v1]) (b := v0) (bc2 := bc) (bs2 := bs) (m_X3_isEye (Q := _) (fun sz => ⟨y1, rfl, ?_⟩) ey1) rfl dX3_limitOf_2 hoy1 rfl rfl ck_X3_limitOf_89 (Nat.le_of_ble_eq_true rfl) rfl rfl rfl
  refine sp_if_eq (pc := 5) (tgt := 17) dX3_limitOf_5 (by decide) (fun c2 => ?_) (fun c2 => ?_)
  · rw [if_pos c2] at hf
    refine sp_aload_n (pc := 17) dX3_limitOf_17 0 rfl ?_
    obtain ⟨x3, ex3, hf⟩ := ob hf
    refine sp_gI (pc := 18) fl_RX3_41 dX3_limitOf_18 ex3 ?_
    obtain rfl := Option.some.inj hf
    exact sp_ireturn (pc := 21) dX3_limitOf_21 rfl rfl (hQ _)
  · rw [if_neg c2] at hf
    refine sp_aload_n (pc := 8) dX3_limitOf_8 0 rfl ?_
    obtain ⟨x4, ex4, hf⟩ := ob hf
    refine sp_gR (pc := 9) fl_RX3_15 dX3_limitOf_9 ex4 ?_
    refine sp_iload_n (pc := 12) dX3_limitOf_12 1 rfl ?_
    obtain ⟨x5, ex5, hf⟩ := ob hf
    refine sp_aI (pc := 13) dX3_limitOf_13 ex5 ?_
    refine sp_goto (pc := 14) (tgt := 21) dX3_limitOf_14 (by decide) ?_
    obtain rfl := Option.some.inj hf
    exact sp_ireturn (pc := 21) dX3_limitOf_21 rfl rfl (hQ _)

theorem o_X3_limitOf {h : HP} {v0 : Nat} {v1 : Int32} {res : Int32} (hf : f_X3_limitOf h v0 v1 = some res) : ∃ fs, h v0 = some (.inr (3, fs)) := by
  obtain ⟨u, eu, -⟩ := ob hf
  exact kO_spec eu

theorem m_X3_limitOf {l : Launch} {Q : PST} {h : HP} {v0 : Nat} {v1 : Int32} {sz : Nat} {res : Int32} (hQ : ∀ sz', Q (.inl (some (.int res))) h sz') (hf : f_X3_limitOf h v0 v1 = some res) : MM l M_X3_limitOf [.ref v0, .int v1] h sz Q := by
  obtain ⟨u, eu, hf⟩ := ob hf
  exact MM_of wok_X3_limitOf (by decide +kernel) (Nat.le_of_ble_eq_true rfl) ((w_X3_limitOf_0 hQ hf))

theorem dX6_concerns_0 : decode (mB M_X6_concerns) 0 = .ok (.iload_n 1, 1) := by decide +kernel
theorem dX6_concerns_1 : decode (mB M_X6_concerns) 1 = .ok (.ifCond .lt 35, 3) := by decide +kernel
theorem dX6_concerns_4 : decode (mB M_X6_concerns) 4 = .ok (.iload_n 1, 1) := by decide +kernel
theorem dX6_concerns_5 : decode (mB M_X6_concerns) 5 = .ok (.aload_n 0, 1) := by decide +kernel
theorem dX6_concerns_6 : decode (mB M_X6_concerns) 6 = .ok (.getfield 30, 3) := by decide +kernel
theorem dX6_concerns_9 : decode (mB M_X6_concerns) 9 = .ok (.if_icmp .ge 27, 3) := by decide +kernel
theorem dX6_concerns_12 : decode (mB M_X6_concerns) 12 = .ok (.aload_n 0, 1) := by decide +kernel
theorem dX6_concerns_13 : decode (mB M_X6_concerns) 13 = .ok (.getfield 21, 3) := by decide +kernel
theorem dX6_concerns_16 : decode (mB M_X6_concerns) 16 = .ok (.iload_n 1, 1) := by decide +kernel
theorem dX6_concerns_17 : decode (mB M_X6_concerns) 17 = .ok (.iaload, 1) := by decide +kernel
theorem dX6_concerns_18 : decode (mB M_X6_concerns) 18 = .ok (.iload_n 2, 1) := by decide +kernel
theorem dX6_concerns_19 : decode (mB M_X6_concerns) 19 = .ok (.if_icmp .gt 17, 3) := by decide +kernel
theorem dX6_concerns_22 : decode (mB M_X6_concerns) 22 = .ok (.iload_n 2, 1) := by decide +kernel
theorem dX6_concerns_23 : decode (mB M_X6_concerns) 23 = .ok (.aload_n 0, 1) := by decide +kernel
theorem dX6_concerns_24 : decode (mB M_X6_concerns) 24 = .ok (.getfield 24, 3) := by decide +kernel
theorem dX6_concerns_27 : decode (mB M_X6_concerns) 27 = .ok (.iload_n 1, 1) := by decide +kernel
theorem dX6_concerns_28 : decode (mB M_X6_concerns) 28 = .ok (.iaload, 1) := by decide +kernel
theorem dX6_concerns_29 : decode (mB M_X6_concerns) 29 = .ok (.if_icmp .gt 7, 3) := by decide +kernel
theorem dX6_concerns_32 : decode (mB M_X6_concerns) 32 = .ok (.iconst 1, 1) := by decide +kernel
theorem dX6_concerns_33 : decode (mB M_X6_concerns) 33 = .ok (.goto 4, 3) := by decide +kernel
theorem dX6_concerns_36 : decode (mB M_X6_concerns) 36 = .ok (.iconst 0, 1) := by decide +kernel
theorem dX6_concerns_37 : decode (mB M_X6_concerns) 37 = .ok (.ireturn, 1) := by decide +kernel
def b_X6_concerns_0 (h : HP) (v0 : Nat) (v1 : Int32) (v2 : Int32) : Option (Int32) :=
  if v1 < 0 then some (0) else (gI 6 4 h v0).bind fun x2 => if x2 ≤ v1 then some (0) else (gR 6 1 h v0).bind fun x4 => (aI h x4 v1).bind fun x5 => if v2 < x5 then some (0) else (gR 6 2 h v0).bind fun x7 => (aI h x7 v1).bind fun x8 => if x8 < v2 then some (0) else some (1)
def f_X6_concerns (h : HP) (v0 : Nat) (v1 : Int32) (v2 : Int32) : Option (Int32) := (kO 6 h v0).bind fun _ => b_X6_concerns_0 h v0 v1 v2
theorem w_X6_concerns_0 {l : Launch} {X : SCR} {Q : PST} {bc bs : Nat} {res : Int32} {h : HP} (hQ : ∀ sz', Q (.inl (some (.int res))) h sz') {v0 : Nat} {v1 : Int32} {v2 : Int32} {sz : Nat} (hf : b_X6_concerns_0 h v0 v1 v2  = some res) : SP l X M_X6_concerns 0 [(0, .ref v0), (1, .int v1), (2, .int v2)] [] h sz bc bs Q := by
  rw [b_X6_concerns_0] at hf
  refine sp_iload_n (pc := 0) dX6_concerns_0 1 rfl ?_
  refine sp_if_lt (pc := 1) (tgt := 36) dX6_concerns_1 (by decide) (fun c1 => ?_) (fun c1 => ?_)
  · rw [if_pos c1] at hf
    refine sp_iconst (pc := 36) (v := 0) dX6_concerns_36 (by decide) ?_
    obtain rfl := Option.some.inj hf
    exact sp_ireturn (pc := 37) dX6_concerns_37 rfl rfl (hQ _)
  · rw [if_neg c1] at hf
    refine sp_iload_n (pc := 4) dX6_concerns_4 1 rfl ?_
    refine sp_aload_n (pc := 5) dX6_concerns_5 0 rfl ?_
    obtain ⟨x2, ex2, hf⟩ := ob hf
    refine sp_gI (pc := 6) fl_RX6_30 dX6_concerns_6 ex2 ?_
    refine sp_icmp_ge (pc := 9) (tgt := 36) dX6_concerns_9 (by decide) (fun c3 => ?_) (fun c3 => ?_)
    · rw [if_pos c3] at hf
      refine sp_iconst (pc := 36) (v := 0) dX6_concerns_36 (by decide) ?_
      obtain rfl := Option.some.inj hf
      exact sp_ireturn (pc := 37) dX6_concerns_37 rfl rfl (hQ _)
    · rw [if_neg c3] at hf
      refine sp_aload_n (pc := 12) dX6_concerns_12 0 rfl ?_
      obtain ⟨x4, ex4, hf⟩ := ob hf
      refine sp_gR (pc := 13) fl_RX6_21 dX6_concerns_13 ex4 ?_
      refine sp_iload_n (pc := 16) dX6_concerns_16 1 rfl ?_
      obtain ⟨x5, ex5, hf⟩ := ob hf
      refine sp_aI (pc := 17) dX6_concerns_17 ex5 ?_
      refine sp_iload_n (pc := 18) dX6_concerns_18 2 rfl ?_
      refine sp_icmp_gt (pc := 19) (tgt := 36) dX6_concerns_19 (by decide) (fun c6 => ?_) (fun c6 => ?_)
      · rw [if_pos c6] at hf
        refine sp_iconst (pc := 36) (v := 0) dX6_concerns_36 (by decide) ?_
        obtain rfl := Option.some.inj hf
        exact sp_ireturn (pc := 37) dX6_concerns_37 rfl rfl (hQ _)
      · rw [if_neg c6] at hf
        refine sp_iload_n (pc := 22) dX6_concerns_22 2 rfl ?_
        refine sp_aload_n (pc := 23) dX6_concerns_23 0 rfl ?_
        obtain ⟨x7, ex7, hf⟩ := ob hf
        refine sp_gR (pc := 24) fl_RX6_24 dX6_concerns_24 ex7 ?_
        refine sp_iload_n (pc := 27) dX6_concerns_27 1 rfl ?_
        obtain ⟨x8, ex8, hf⟩ := ob hf
        refine sp_aI (pc := 28) dX6_concerns_28 ex8 ?_
        refine sp_icmp_gt (pc := 29) (tgt := 36) dX6_concerns_29 (by decide) (fun c9 => ?_) (fun c9 => ?_)
        · rw [if_pos c9] at hf
          refine sp_iconst (pc := 36) (v := 0) dX6_concerns_36 (by decide) ?_
          obtain rfl := Option.some.inj hf
          exact sp_ireturn (pc := 37) dX6_concerns_37 rfl rfl (hQ _)
        · rw [if_neg c9] at hf
          refine sp_iconst (pc := 32) (v := 1) dX6_concerns_32 (by decide) ?_
          refine sp_goto (pc := 33) (tgt := 37) dX6_concerns_33 (by decide) ?_
          obtain rfl := Option.some.inj hf
          exact sp_ireturn (pc := 37) dX6_concerns_37 rfl rfl (hQ _)

theorem o_X6_concerns {h : HP} {v0 : Nat} {v1 : Int32} {v2 : Int32} {res : Int32} (hf : f_X6_concerns h v0 v1 v2 = some res) : ∃ fs, h v0 = some (.inr (6, fs)) := by
  obtain ⟨u, eu, -⟩ := ob hf
  exact kO_spec eu

theorem m_X6_concerns {l : Launch} {Q : PST} {h : HP} {v0 : Nat} {v1 : Int32} {v2 : Int32} {sz : Nat} {res : Int32} (hQ : ∀ sz', Q (.inl (some (.int res))) h sz') (hf : f_X6_concerns h v0 v1 v2 = some res) : MM l M_X6_concerns [.ref v0, .int v1, .int v2] h sz Q := by
  obtain ⟨u, eu, hf⟩ := ob hf
  exact MM_of wok_X6_concerns (by decide +kernel) (Nat.le_of_ble_eq_true rfl) ((w_X6_concerns_0 hQ hf))

theorem dX3_newestFor_0 : decode (mB M_X3_newestFor) 0 = .ok (.aload_n 0, 1) := by decide +kernel
theorem dX3_newestFor_1 : decode (mB M_X3_newestFor) 1 = .ok (.getfield 27, 3) := by decide +kernel
theorem dX3_newestFor_4 : decode (mB M_X3_newestFor) 4 = .ok (.invokevirtual 47, 3) := by decide +kernel
theorem dX3_newestFor_7 : decode (mB M_X3_newestFor) 7 = .ok (.iconst 1, 1) := by decide +kernel
theorem dX3_newestFor_8 : decode (mB M_X3_newestFor) 8 = .ok (.isub, 1) := by decide +kernel
theorem dX3_newestFor_9 : decode (mB M_X3_newestFor) 9 = .ok (.istore_n 3, 1) := by decide +kernel
theorem dX3_newestFor_10 : decode (mB M_X3_newestFor) 10 = .ok (.iload_n 3, 1) := by decide +kernel
theorem dX3_newestFor_11 : decode (mB M_X3_newestFor) 11 = .ok (.ifCond .lt 35, 3) := by decide +kernel
theorem dX3_newestFor_14 : decode (mB M_X3_newestFor) 14 = .ok (.aload_n 0, 1) := by decide +kernel
theorem dX3_newestFor_15 : decode (mB M_X3_newestFor) 15 = .ok (.getfield 27, 3) := by decide +kernel
theorem dX3_newestFor_18 : decode (mB M_X3_newestFor) 18 = .ok (.iload_n 3, 1) := by decide +kernel
theorem dX3_newestFor_19 : decode (mB M_X3_newestFor) 19 = .ok (.invokevirtual 92, 3) := by decide +kernel
theorem dX3_newestFor_22 : decode (mB M_X3_newestFor) 22 = .ok (.iload_n 2, 1) := by decide +kernel
theorem dX3_newestFor_23 : decode (mB M_X3_newestFor) 23 = .ok (.if_icmp .gt 17, 3) := by decide +kernel
theorem dX3_newestFor_26 : decode (mB M_X3_newestFor) 26 = .ok (.aload_n 0, 1) := by decide +kernel
theorem dX3_newestFor_27 : decode (mB M_X3_newestFor) 27 = .ok (.getfield 27, 3) := by decide +kernel
theorem dX3_newestFor_30 : decode (mB M_X3_newestFor) 30 = .ok (.iload_n 3, 1) := by decide +kernel
theorem dX3_newestFor_31 : decode (mB M_X3_newestFor) 31 = .ok (.iload_n 1, 1) := by decide +kernel
theorem dX3_newestFor_32 : decode (mB M_X3_newestFor) 32 = .ok (.invokevirtual 95, 3) := by decide +kernel
theorem dX3_newestFor_35 : decode (mB M_X3_newestFor) 35 = .ok (.ifCond .eq 5, 3) := by decide +kernel
theorem dX3_newestFor_38 : decode (mB M_X3_newestFor) 38 = .ok (.iload_n 3, 1) := by decide +kernel
theorem dX3_newestFor_39 : decode (mB M_X3_newestFor) 39 = .ok (.ireturn, 1) := by decide +kernel
theorem dX3_newestFor_40 : decode (mB M_X3_newestFor) 40 = .ok (.iinc 3 (-1), 3) := by decide +kernel
theorem dX3_newestFor_43 : decode (mB M_X3_newestFor) 43 = .ok (.goto (-33), 3) := by decide +kernel
theorem dX3_newestFor_46 : decode (mB M_X3_newestFor) 46 = .ok (.iconst (-1), 1) := by decide +kernel
theorem dX3_newestFor_47 : decode (mB M_X3_newestFor) 47 = .ok (.ireturn, 1) := by decide +kernel
def c_X3_newestFor_10 (h : HP) (v0 : Nat) (v1 : Int32) (v2 : Int32) (k10 : Int32 → Option (Int32)) (v3 : Int32) : Option (Int32) :=
  if v3 < 0 then some ((-1)) else (gR 3 1 h v0).bind fun x2 => (f_X6_numberAt h x2 v3).bind fun y3 => if v2 < y3 then k10 (v3 + (-1)) else (gR 3 1 h v0).bind fun x5 => (f_X6_concerns h x5 v3 v1).bind fun y6 => if y6 = 0 then k10 (v3 + (-1)) else some (v3)
def b_X3_newestFor_10 (h : HP) (v0 : Nat) (v1 : Int32) (v2 : Int32) : Nat → Int32 → Option (Int32)
  | 0, _ => none
  | n + 1, v3 => c_X3_newestFor_10 h v0 v1 v2 (b_X3_newestFor_10 h v0 v1 v2 n) v3
def b_X3_newestFor_0 (h : HP) (v0 : Nat) (v1 : Int32) (v2 : Int32) : Option (Int32) :=
  (gR 3 1 h v0).bind fun x1 => (f_X6_size h x1).bind fun y2 => b_X3_newestFor_10 h v0 v1 v2 FU (y2 - 1)
def f_X3_newestFor (h : HP) (v0 : Nat) (v1 : Int32) (v2 : Int32) : Option (Int32) := (kO 3 h v0).bind fun _ => b_X3_newestFor_0 h v0 v1 v2
theorem wc_X3_newestFor_10 {l : Launch} {X : SCR} {Q : PST} {bc bs : Nat} {res : Int32} {h : HP} (hQ : ∀ sz', Q (.inl (some (.int res))) h sz') {v0 : Nat} {v1 : Int32} {v2 : Int32} {k10 : Int32 → Option (Int32)} (hk10 : ∀ (v3 : Int32) (sz : Nat), k10 v3 = some res → SP l X M_X3_newestFor 10 [(0, .ref v0), (1, .int v1), (2, .int v2), (3, .int v3)] [] h sz bc bs Q) {v3 : Int32} {sz : Nat} (hf : c_X3_newestFor_10 h v0 v1 v2 k10 v3 = some res) : SP l X M_X3_newestFor 10 [(0, .ref v0), (1, .int v1), (2, .int v2), (3, .int v3)] [] h sz bc bs Q := by
  rw [c_X3_newestFor_10] at hf
  refine sp_iload_n (pc := 10) dX3_newestFor_10 3 rfl ?_
  refine sp_if_lt (pc := 11) (tgt := 46) dX3_newestFor_11 (by decide) (fun c1 => ?_) (fun c1 => ?_)
  · rw [if_pos c1] at hf
    refine sp_iconst (pc := 46) (v := (-1)) dX3_newestFor_46 (by decide) ?_
    obtain rfl := Option.some.inj hf
    exact sp_ireturn (pc := 47) dX3_newestFor_47 rfl rfl (hQ _)
  · rw [if_neg c1] at hf
    refine sp_aload_n (pc := 14) dX3_newestFor_14 0 rfl ?_
    obtain ⟨x2, ex2, hf⟩ := ob hf
    refine sp_gR (pc := 15) fl_RX3_27 dX3_newestFor_15 ex2 ?_
    refine sp_iload_n (pc := 18) dX3_newestFor_18 3 rfl ?_
    obtain ⟨y3, ey3, hf⟩ := ob hf
    obtain ⟨fsy3, hoy3⟩ := o_X6_numberAt ey3
    refine sp_callVi (pc := 19) (z := M_X6_numberAt) (As := [.int v3]) (b := x2) (bc2 := bc) (bs2 := bs) (m_X6_numberAt (Q := _) (fun sz => ⟨y3, rfl, ?_⟩) ey3) rfl dX3_newestFor_19 hoy3 rfl rfl ck_X3_newestFor_92 (Nat.le_of_ble_eq_true rfl) rfl rfl rfl
    refine sp_iload_n (pc := 22) dX3_newestFor_22 2 rfl ?_
    refine sp_icmp_gt (pc := 23) (tgt := 40) dX3_newestFor_23 (by decide) (fun c4 => ?_) (fun c4 => ?_)
    · rw [if_pos c4] at hf
      refine sp_iinc (pc := 40) (v := v3 + (-1)) (lv' := [(3, .int (v3 + (-1))), (0, .ref v0), (1, .int v1), (2, .int v2)]) dX3_newestFor_40 3 rfl rfl (by decide) rfl ?_
      refine sp_goto (pc := 43) (tgt := 10) dX3_newestFor_43 (by decide) ?_
      exact sp_sub [1, 2, 3, 0] rfl (hk10 _ _ hf)
    · rw [if_neg c4] at hf
      refine sp_aload_n (pc := 26) dX3_newestFor_26 0 rfl ?_
      obtain ⟨x5, ex5, hf⟩ := ob hf
      refine sp_gR (pc := 27) fl_RX3_27 dX3_newestFor_27 ex5 ?_
      refine sp_iload_n (pc := 30) dX3_newestFor_30 3 rfl ?_
      refine sp_iload_n (pc := 31) dX3_newestFor_31 1 rfl ?_
      obtain ⟨y6, ey6, hf⟩ := ob hf
      obtain ⟨fsy6, hoy6⟩ := o_X6_concerns ey6
      refine sp_callVi (pc := 32) (z := M_X6_concerns) (As := [.int v3, .int v1]) (b := x5) (bc2 := bc) (bs2 := bs) (m_X6_concerns (Q := _) (fun sz => ⟨y6, rfl, ?_⟩) ey6) rfl dX3_newestFor_32 hoy6 rfl rfl ck_X3_newestFor_95 (Nat.le_of_ble_eq_true rfl) rfl rfl rfl
      refine sp_if_eq (pc := 35) (tgt := 40) dX3_newestFor_35 (by decide) (fun c7 => ?_) (fun c7 => ?_)
      · rw [if_pos c7] at hf
        refine sp_iinc (pc := 40) (v := v3 + (-1)) (lv' := [(3, .int (v3 + (-1))), (0, .ref v0), (1, .int v1), (2, .int v2)]) dX3_newestFor_40 3 rfl rfl (by decide) rfl ?_
        refine sp_goto (pc := 43) (tgt := 10) dX3_newestFor_43 (by decide) ?_
        exact sp_sub [1, 2, 3, 0] rfl (hk10 _ _ hf)
      · rw [if_neg c7] at hf
        refine sp_iload_n (pc := 38) dX3_newestFor_38 3 rfl ?_
        obtain rfl := Option.some.inj hf
        exact sp_ireturn (pc := 39) dX3_newestFor_39 rfl rfl (hQ _)

theorem w_X3_newestFor_10 {l : Launch} {X : SCR} {Q : PST} {bc bs : Nat} {res : Int32} {h : HP} (hQ : ∀ sz', Q (.inl (some (.int res))) h sz') {v0 : Nat} {v1 : Int32} {v2 : Int32} : ∀ (n : Nat) {v3 : Int32} {sz : Nat}, b_X3_newestFor_10 h v0 v1 v2 n v3 = some res → SP l X M_X3_newestFor 10 [(0, .ref v0), (1, .int v1), (2, .int v2), (3, .int v3)] [] h sz bc bs Q := by
  intro n
  induction n with
  | zero =>
    intro v3 sz hf
    rw [b_X3_newestFor_10] at hf
    cases hf
  | succ n ih =>
    intro v3 sz hf
    rw [b_X3_newestFor_10] at hf
    exact wc_X3_newestFor_10 hQ (fun v3 sz hf => ih hf) hf

theorem w_X3_newestFor_0 {l : Launch} {X : SCR} {Q : PST} {bc bs : Nat} {res : Int32} {h : HP} (hQ : ∀ sz', Q (.inl (some (.int res))) h sz') {v0 : Nat} {v1 : Int32} {v2 : Int32} {sz : Nat} (hf : b_X3_newestFor_0 h v0 v1 v2  = some res) : SP l X M_X3_newestFor 0 [(0, .ref v0), (1, .int v1), (2, .int v2)] [] h sz bc bs Q := by
  rw [b_X3_newestFor_0] at hf
  refine sp_aload_n (pc := 0) dX3_newestFor_0 0 rfl ?_
  obtain ⟨x1, ex1, hf⟩ := ob hf
  refine sp_gR (pc := 1) fl_RX3_27 dX3_newestFor_1 ex1 ?_
  obtain ⟨y2, ey2, hf⟩ := ob hf
  obtain ⟨fsy2, hoy2⟩ := o_X6_size ey2
  refine sp_callVi (pc := 4) (z := M_X6_size) (As := []) (b := x1) (bc2 := bc) (bs2 := bs) (m_X6_size (Q := _) (fun sz => ⟨y2, rfl, ?_⟩) ey2) rfl dX3_newestFor_4 hoy2 rfl rfl ck_X3_newestFor_47 (Nat.le_of_ble_eq_true rfl) rfl rfl rfl
  refine sp_iconst (pc := 7) (v := 1) dX3_newestFor_7 (by decide) ?_
  refine sp_isub (pc := 8) dX3_newestFor_8 ?_
  refine sp_istore_n (pc := 9) (lv' := [(3, .int (y2 - 1)), (0, .ref v0), (1, .int v1), (2, .int v2)]) dX3_newestFor_9 (by decide) rfl ?_
  exact sp_sub [1, 2, 3, 0] rfl (w_X3_newestFor_10 hQ FU hf)

theorem o_X3_newestFor {h : HP} {v0 : Nat} {v1 : Int32} {v2 : Int32} {res : Int32} (hf : f_X3_newestFor h v0 v1 v2 = some res) : ∃ fs, h v0 = some (.inr (3, fs)) := by
  obtain ⟨u, eu, -⟩ := ob hf
  exact kO_spec eu

theorem m_X3_newestFor {l : Launch} {Q : PST} {h : HP} {v0 : Nat} {v1 : Int32} {v2 : Int32} {sz : Nat} {res : Int32} (hQ : ∀ sz', Q (.inl (some (.int res))) h sz') (hf : f_X3_newestFor h v0 v1 v2 = some res) : MM l M_X3_newestFor [.ref v0, .int v1, .int v2] h sz Q := by
  obtain ⟨u, eu, hf⟩ := ob hf
  exact MM_of wok_X3_newestFor (by decide +kernel) (Nat.le_of_ble_eq_true rfl) ((w_X3_newestFor_0 hQ hf))

theorem dX3_valueFor_0 : decode (mB M_X3_valueFor) 0 = .ok (.aload_n 0, 1) := by decide +kernel
theorem dX3_valueFor_1 : decode (mB M_X3_valueFor) 1 = .ok (.getfield 27, 3) := by decide +kernel
theorem dX3_valueFor_4 : decode (mB M_X3_valueFor) 4 = .ok (.aload_n 0, 1) := by decide +kernel
theorem dX3_valueFor_5 : decode (mB M_X3_valueFor) 5 = .ok (.iload_n 1, 1) := by decide +kernel
theorem dX3_valueFor_6 : decode (mB M_X3_valueFor) 6 = .ok (.iload_n 2, 1) := by decide +kernel
theorem dX3_valueFor_7 : decode (mB M_X3_valueFor) 7 = .ok (.invokevirtual 99, 3) := by decide +kernel
theorem dX3_valueFor_10 : decode (mB M_X3_valueFor) 10 = .ok (.invokevirtual 103, 3) := by decide +kernel
theorem dX3_valueFor_13 : decode (mB M_X3_valueFor) 13 = .ok (.ireturn, 1) := by decide +kernel
def b_X3_valueFor_0 (h : HP) (v0 : Nat) (v1 : Int32) (v2 : Int32) : Option (Int32) :=
  (gR 3 1 h v0).bind fun x1 => (f_X3_newestFor h v0 v1 v2).bind fun y2 => (f_X6_valueAt h x1 y2).bind fun y3 => some (y3)
def f_X3_valueFor (h : HP) (v0 : Nat) (v1 : Int32) (v2 : Int32) : Option (Int32) := (kO 3 h v0).bind fun _ => b_X3_valueFor_0 h v0 v1 v2
theorem w_X3_valueFor_0 {l : Launch} {X : SCR} {Q : PST} {bc bs : Nat} {res : Int32} {h : HP} (hQ : ∀ sz', Q (.inl (some (.int res))) h sz') {v0 : Nat} {v1 : Int32} {v2 : Int32} {sz : Nat} (hf : b_X3_valueFor_0 h v0 v1 v2  = some res) : SP l X M_X3_valueFor 0 [(0, .ref v0), (1, .int v1), (2, .int v2)] [] h sz bc bs Q := by
  rw [b_X3_valueFor_0] at hf
  refine sp_aload_n (pc := 0) dX3_valueFor_0 0 rfl ?_
  obtain ⟨x1, ex1, hf⟩ := ob hf
  refine sp_gR (pc := 1) fl_RX3_27 dX3_valueFor_1 ex1 ?_
  refine sp_aload_n (pc := 4) dX3_valueFor_4 0 rfl ?_
  refine sp_iload_n (pc := 5) dX3_valueFor_5 1 rfl ?_
  refine sp_iload_n (pc := 6) dX3_valueFor_6 2 rfl ?_
  obtain ⟨y2, ey2, hf⟩ := ob hf
  obtain ⟨fsy2, hoy2⟩ := o_X3_newestFor ey2
  refine sp_callVi (pc := 7) (z := M_X3_newestFor) (As := [.int v1, .int v2]) (b := v0) (bc2 := bc) (bs2 := bs) (m_X3_newestFor (Q := _) (fun sz => ⟨y2, rfl, ?_⟩) ey2) rfl dX3_valueFor_7 hoy2 rfl rfl ck_X3_valueFor_99 (Nat.le_of_ble_eq_true rfl) rfl rfl rfl
  obtain ⟨y3, ey3, hf⟩ := ob hf
  obtain ⟨fsy3, hoy3⟩ := o_X6_valueAt ey3
  refine sp_callVi (pc := 10) (z := M_X6_valueAt) (As := [.int y2]) (b := x1) (bc2 := bc) (bs2 := bs) (m_X6_valueAt (Q := _) (fun sz => ⟨y3, rfl, ?_⟩) ey3) rfl dX3_valueFor_10 hoy3 rfl rfl ck_X3_valueFor_103 (Nat.le_of_ble_eq_true rfl) rfl rfl rfl
  obtain rfl := Option.some.inj hf
  exact sp_ireturn (pc := 13) dX3_valueFor_13 rfl rfl (hQ _)

theorem o_X3_valueFor {h : HP} {v0 : Nat} {v1 : Int32} {v2 : Int32} {res : Int32} (hf : f_X3_valueFor h v0 v1 v2 = some res) : ∃ fs, h v0 = some (.inr (3, fs)) := by
  obtain ⟨u, eu, -⟩ := ob hf
  exact kO_spec eu

theorem m_X3_valueFor {l : Launch} {Q : PST} {h : HP} {v0 : Nat} {v1 : Int32} {v2 : Int32} {sz : Nat} {res : Int32} (hQ : ∀ sz', Q (.inl (some (.int res))) h sz') (hf : f_X3_valueFor h v0 v1 v2 = some res) : MM l M_X3_valueFor [.ref v0, .int v1, .int v2] h sz Q := by
  obtain ⟨u, eu, hf⟩ := ob hf
  exact MM_of wok_X3_valueFor (by decide +kernel) (Nat.le_of_ble_eq_true rfl) ((w_X3_valueFor_0 hQ hf))

theorem dX3_isSeen_0 : decode (mB M_X3_isSeen) 0 = .ok (.aload_n 0, 1) := by decide +kernel
theorem dX3_isSeen_1 : decode (mB M_X3_isSeen) 1 = .ok (.getfield 27, 3) := by decide +kernel
theorem dX3_isSeen_4 : decode (mB M_X3_isSeen) 4 = .ok (.iload_n 1, 1) := by decide +kernel
theorem dX3_isSeen_5 : decode (mB M_X3_isSeen) 5 = .ok (.invokevirtual 78, 3) := by decide +kernel
theorem dX3_isSeen_8 : decode (mB M_X3_isSeen) 8 = .ok (.istore_n 2, 1) := by decide +kernel
theorem dX3_isSeen_9 : decode (mB M_X3_isSeen) 9 = .ok (.iconst (-1), 1) := by decide +kernel
theorem dX3_isSeen_10 : decode (mB M_X3_isSeen) 10 = .ok (.istore_n 3, 1) := by decide +kernel
theorem dX3_isSeen_11 : decode (mB M_X3_isSeen) 11 = .ok (.iload_n 3, 1) := by decide +kernel
theorem dX3_isSeen_12 : decode (mB M_X3_isSeen) 12 = .ok (.aload_n 0, 1) := by decide +kernel
theorem dX3_isSeen_13 : decode (mB M_X3_isSeen) 13 = .ok (.getfield 38, 3) := by decide +kernel
theorem dX3_isSeen_16 : decode (mB M_X3_isSeen) 16 = .ok (.if_icmp .ge 25, 3) := by decide +kernel
theorem dX3_isSeen_19 : decode (mB M_X3_isSeen) 19 = .ok (.aload_n 0, 1) := by decide +kernel
theorem dX3_isSeen_20 : decode (mB M_X3_isSeen) 20 = .ok (.iload_n 2, 1) := by decide +kernel
theorem dX3_isSeen_21 : decode (mB M_X3_isSeen) 21 = .ok (.aload_n 0, 1) := by decide +kernel
theorem dX3_isSeen_22 : decode (mB M_X3_isSeen) 22 = .ok (.iload_n 3, 1) := by decide +kernel
theorem dX3_isSeen_23 : decode (mB M_X3_isSeen) 23 = .ok (.invokevirtual 106, 3) := by decide +kernel
theorem dX3_isSeen_26 : decode (mB M_X3_isSeen) 26 = .ok (.invokevirtual 99, 3) := by decide +kernel
theorem dX3_isSeen_29 : decode (mB M_X3_isSeen) 29 = .ok (.iload_n 1, 1) := by decide +kernel
theorem dX3_isSeen_30 : decode (mB M_X3_isSeen) 30 = .ok (.if_icmp .ne 5, 3) := by decide +kernel
theorem dX3_isSeen_33 : decode (mB M_X3_isSeen) 33 = .ok (.iconst 1, 1) := by decide +kernel
theorem dX3_isSeen_34 : decode (mB M_X3_isSeen) 34 = .ok (.ireturn, 1) := by decide +kernel
theorem dX3_isSeen_35 : decode (mB M_X3_isSeen) 35 = .ok (.iinc 3 1, 3) := by decide +kernel
theorem dX3_isSeen_38 : decode (mB M_X3_isSeen) 38 = .ok (.goto (-27), 3) := by decide +kernel
theorem dX3_isSeen_41 : decode (mB M_X3_isSeen) 41 = .ok (.iconst 0, 1) := by decide +kernel
theorem dX3_isSeen_42 : decode (mB M_X3_isSeen) 42 = .ok (.ireturn, 1) := by decide +kernel
def c_X3_isSeen_11 (h : HP) (v0 : Nat) (v1 : Int32) (k11 : Int32 → Int32 → Option (Int32)) (v2 : Int32) (v3 : Int32) : Option (Int32) :=
  (gI 3 5 h v0).bind fun x1 => if x1 ≤ v3 then some (0) else (f_X3_limitOf h v0 v3).bind fun y3 => (f_X3_newestFor h v0 v2 y3).bind fun y4 => if y4 = v1 then some (1) else k11 v2 (v3 + 1)
def b_X3_isSeen_11 (h : HP) (v0 : Nat) (v1 : Int32) : Nat → Int32 → Int32 → Option (Int32)
  | 0, _, _ => none
  | n + 1, v2, v3 => c_X3_isSeen_11 h v0 v1 (b_X3_isSeen_11 h v0 v1 n) v2 v3
def b_X3_isSeen_0 (h : HP) (v0 : Nat) (v1 : Int32) : Option (Int32) :=
  (gR 3 1 h v0).bind fun x1 => (f_X6_firstAt h x1 v1).bind fun y2 => b_X3_isSeen_11 h v0 v1 FU y2 ((-1))
def f_X3_isSeen (h : HP) (v0 : Nat) (v1 : Int32) : Option (Int32) := (kO 3 h v0).bind fun _ => b_X3_isSeen_0 h v0 v1
theorem wc_X3_isSeen_11 {l : Launch} {X : SCR} {Q : PST} {bc bs : Nat} {res : Int32} {h : HP} (hQ : ∀ sz', Q (.inl (some (.int res))) h sz') {v0 : Nat} {v1 : Int32} {k11 : Int32 → Int32 → Option (Int32)} (hk11 : ∀ (v2 : Int32) (v3 : Int32) (sz : Nat), k11 v2 v3 = some res → SP l X M_X3_isSeen 11 [(0, .ref v0), (1, .int v1), (2, .int v2), (3, .int v3)] [] h sz bc bs Q) {v2 : Int32} {v3 : Int32} {sz : Nat} (hf : c_X3_isSeen_11 h v0 v1 k11 v2 v3 = some res) : SP l X M_X3_isSeen 11 [(0, .ref v0), (1, .int v1), (2, .int v2), (3, .int v3)] [] h sz bc bs Q := by
  rw [c_X3_isSeen_11] at hf
  refine sp_iload_n (pc := 11) dX3_isSeen_11 3 rfl ?_
  refine sp_aload_n (pc := 12) dX3_isSeen_12 0 rfl ?_
  obtain ⟨x1, ex1, hf⟩ := ob hf
  refine sp_gI (pc := 13) fl_RX3_38 dX3_isSeen_13 ex1 ?_
  refine sp_icmp_ge (pc := 16) (tgt := 41) dX3_isSeen_16 (by decide) (fun c2 => ?_) (fun c2 => ?_)
  · rw [if_pos c2] at hf
    refine sp_iconst (pc := 41) (v := 0) dX3_isSeen_41 (by decide) ?_
    obtain rfl := Option.some.inj hf
    exact sp_ireturn (pc := 42) dX3_isSeen_42 rfl rfl (hQ _)
  · rw [if_neg c2] at hf
    refine sp_aload_n (pc := 19) dX3_isSeen_19 0 rfl ?_
    refine sp_iload_n (pc := 20) dX3_isSeen_20 2 rfl ?_
    refine sp_aload_n (pc := 21) dX3_isSeen_21 0 rfl ?_
    refine sp_iload_n (pc := 22) dX3_isSeen_22 3 rfl ?_
    obtain ⟨y3, ey3, hf⟩ := ob hf
    obtain ⟨fsy3, hoy3⟩ := o_X3_limitOf ey3
    refine sp_callVi (pc := 23) (z := M_X3_limitOf) (As := [.int v3]) (b := v0) (bc2 := bc) (bs2 := bs) (m_X3_limitOf (Q := _) (fun sz => ⟨y3, rfl, ?_⟩) ey3) rfl dX3_isSeen_23 hoy3 rfl rfl ck_X3_isSeen_106 (Nat.le_of_ble_eq_true rfl) rfl rfl rfl
    obtain ⟨y4, ey4, hf⟩ := ob hf
    obtain ⟨fsy4, hoy4⟩ := o_X3_newestFor ey4
    refine sp_callVi (pc := 26) (z := M_X3_newestFor) (As := [.int v2, .int y3]) (b := v0) (bc2 := bc) (bs2 := bs) (m_X3_newestFor (Q := _) (fun sz => ⟨y4, rfl, ?_⟩) ey4) rfl dX3_isSeen_26 hoy4 rfl rfl ck_X3_isSeen_99 (Nat.le_of_ble_eq_true rfl) rfl rfl rfl
    refine sp_iload_n (pc := 29) dX3_isSeen_29 1 rfl ?_
    refine sp_icmp_ne (pc := 30) (tgt := 35) dX3_isSeen_30 (by decide) (fun c5 => ?_) (fun c5 => ?_)
    · rw [if_neg c5] at hf
      refine sp_iinc (pc := 35) (v := v3 + 1) (lv' := [(3, .int (v3 + 1)), (0, .ref v0), (1, .int v1), (2, .int v2)]) dX3_isSeen_35 3 rfl rfl (by decide) rfl ?_
      refine sp_goto (pc := 38) (tgt := 11) dX3_isSeen_38 (by decide) ?_
      exact sp_sub [1, 2, 3, 0] rfl (hk11 _ _ _ hf)
    · rw [if_pos c5] at hf
      refine sp_iconst (pc := 33) (v := 1) dX3_isSeen_33 (by decide) ?_
      obtain rfl := Option.some.inj hf
      exact sp_ireturn (pc := 34) dX3_isSeen_34 rfl rfl (hQ _)

theorem w_X3_isSeen_11 {l : Launch} {X : SCR} {Q : PST} {bc bs : Nat} {res : Int32} {h : HP} (hQ : ∀ sz', Q (.inl (some (.int res))) h sz') {v0 : Nat} {v1 : Int32} : ∀ (n : Nat) {v2 : Int32} {v3 : Int32} {sz : Nat}, b_X3_isSeen_11 h v0 v1 n v2 v3 = some res → SP l X M_X3_isSeen 11 [(0, .ref v0), (1, .int v1), (2, .int v2), (3, .int v3)] [] h sz bc bs Q := by
  intro n
  induction n with
  | zero =>
    intro v2 v3 sz hf
    rw [b_X3_isSeen_11] at hf
    cases hf
  | succ n ih =>
    intro v2 v3 sz hf
    rw [b_X3_isSeen_11] at hf
    exact wc_X3_isSeen_11 hQ (fun v2 v3 sz hf => ih hf) hf

theorem w_X3_isSeen_0 {l : Launch} {X : SCR} {Q : PST} {bc bs : Nat} {res : Int32} {h : HP} (hQ : ∀ sz', Q (.inl (some (.int res))) h sz') {v0 : Nat} {v1 : Int32} {sz : Nat} (hf : b_X3_isSeen_0 h v0 v1  = some res) : SP l X M_X3_isSeen 0 [(0, .ref v0), (1, .int v1)] [] h sz bc bs Q := by
  rw [b_X3_isSeen_0] at hf
  refine sp_aload_n (pc := 0) dX3_isSeen_0 0 rfl ?_
  obtain ⟨x1, ex1, hf⟩ := ob hf
  refine sp_gR (pc := 1) fl_RX3_27 dX3_isSeen_1 ex1 ?_
  refine sp_iload_n (pc := 4) dX3_isSeen_4 1 rfl ?_
  obtain ⟨y2, ey2, hf⟩ := ob hf
  obtain ⟨fsy2, hoy2⟩ := o_X6_firstAt ey2
  refine sp_callVi (pc := 5) (z := M_X6_firstAt) (As := [.int v1]) (b := x1) (bc2 := bc) (bs2 := bs) (m_X6_firstAt (Q := _) (fun sz => ⟨y2, rfl, ?_⟩) ey2) rfl dX3_isSeen_5 hoy2 rfl rfl ck_X3_isSeen_78 (Nat.le_of_ble_eq_true rfl) rfl rfl rfl
  refine sp_istore_n (pc := 8) (lv' := [(2, .int y2), (0, .ref v0), (1, .int v1)]) dX3_isSeen_8 (by decide) rfl ?_
  refine sp_iconst (pc := 9) (v := (-1)) dX3_isSeen_9 (by decide) ?_
  refine sp_istore_n (pc := 10) (lv' := [(3, .int (-1)), (2, .int y2), (0, .ref v0), (1, .int v1)]) dX3_isSeen_10 (by decide) rfl ?_
  exact sp_sub [2, 3, 1, 0] rfl (w_X3_isSeen_11 hQ FU hf)

theorem o_X3_isSeen {h : HP} {v0 : Nat} {v1 : Int32} {res : Int32} (hf : f_X3_isSeen h v0 v1 = some res) : ∃ fs, h v0 = some (.inr (3, fs)) := by
  obtain ⟨u, eu, -⟩ := ob hf
  exact kO_spec eu

theorem m_X3_isSeen {l : Launch} {Q : PST} {h : HP} {v0 : Nat} {v1 : Int32} {sz : Nat} {res : Int32} (hQ : ∀ sz', Q (.inl (some (.int res))) h sz') (hf : f_X3_isSeen h v0 v1 = some res) : MM l M_X3_isSeen [.ref v0, .int v1] h sz Q := by
  obtain ⟨u, eu, hf⟩ := ob hf
  exact MM_of wok_X3_isSeen (by decide +kernel) (Nat.le_of_ble_eq_true rfl) ((w_X3_isSeen_0 hQ hf))

theorem dX3_canOpen_0 : decode (mB M_X3_canOpen) 0 = .ok (.aload_n 0, 1) := by decide +kernel
theorem dX3_canOpen_1 : decode (mB M_X3_canOpen) 1 = .ok (.getfield 38, 3) := by decide +kernel
theorem dX3_canOpen_4 : decode (mB M_X3_canOpen) 4 = .ok (.iconst 2, 1) := by decide +kernel
theorem dX3_canOpen_5 : decode (mB M_X3_canOpen) 5 = .ok (.if_icmp .ge 7, 3) := by decide +kernel
theorem dX3_canOpen_8 : decode (mB M_X3_canOpen) 8 = .ok (.iconst 1, 1) := by decide +kernel
theorem dX3_canOpen_9 : decode (mB M_X3_canOpen) 9 = .ok (.goto 4, 3) := by decide +kernel
theorem dX3_canOpen_12 : decode (mB M_X3_canOpen) 12 = .ok (.iconst 0, 1) := by decide +kernel
theorem dX3_canOpen_13 : decode (mB M_X3_canOpen) 13 = .ok (.ireturn, 1) := by decide +kernel
def b_X3_canOpen_0 (h : HP) (v0 : Nat) : Option (Int32) :=
  (gI 3 5 h v0).bind fun x1 => if 2 ≤ x1 then some (0) else some (1)
def f_X3_canOpen (h : HP) (v0 : Nat) : Option (Int32) := (kO 3 h v0).bind fun _ => b_X3_canOpen_0 h v0
theorem w_X3_canOpen_0 {l : Launch} {X : SCR} {Q : PST} {bc bs : Nat} {res : Int32} {h : HP} (hQ : ∀ sz', Q (.inl (some (.int res))) h sz') {v0 : Nat} {sz : Nat} (hf : b_X3_canOpen_0 h v0  = some res) : SP l X M_X3_canOpen 0 [(0, .ref v0)] [] h sz bc bs Q := by
  rw [b_X3_canOpen_0] at hf
  refine sp_aload_n (pc := 0) dX3_canOpen_0 0 rfl ?_
  obtain ⟨x1, ex1, hf⟩ := ob hf
  refine sp_gI (pc := 1) fl_RX3_38 dX3_canOpen_1 ex1 ?_
  refine sp_iconst (pc := 4) (v := 2) dX3_canOpen_4 (by decide) ?_
  refine sp_icmp_ge (pc := 5) (tgt := 12) dX3_canOpen_5 (by decide) (fun c2 => ?_) (fun c2 => ?_)
  · rw [if_pos c2] at hf
    refine sp_iconst (pc := 12) (v := 0) dX3_canOpen_12 (by decide) ?_
    obtain rfl := Option.some.inj hf
    exact sp_ireturn (pc := 13) dX3_canOpen_13 rfl rfl (hQ _)
  · rw [if_neg c2] at hf
    refine sp_iconst (pc := 8) (v := 1) dX3_canOpen_8 (by decide) ?_
    refine sp_goto (pc := 9) (tgt := 13) dX3_canOpen_9 (by decide) ?_
    obtain rfl := Option.some.inj hf
    exact sp_ireturn (pc := 13) dX3_canOpen_13 rfl rfl (hQ _)

theorem o_X3_canOpen {h : HP} {v0 : Nat} {res : Int32} (hf : f_X3_canOpen h v0 = some res) : ∃ fs, h v0 = some (.inr (3, fs)) := by
  obtain ⟨u, eu, -⟩ := ob hf
  exact kO_spec eu

theorem m_X3_canOpen {l : Launch} {Q : PST} {h : HP} {v0 : Nat} {sz : Nat} {res : Int32} (hQ : ∀ sz', Q (.inl (some (.int res))) h sz') (hf : f_X3_canOpen h v0 = some res) : MM l M_X3_canOpen [.ref v0] h sz Q := by
  obtain ⟨u, eu, hf⟩ := ob hf
  exact MM_of wok_X3_canOpen (by decide +kernel) (Nat.le_of_ble_eq_true rfl) ((w_X3_canOpen_0 hQ hf))

theorem dX3_canFlush_0 : decode (mB M_X3_canFlush) 0 = .ok (.aload_n 0, 1) := by decide +kernel
theorem dX3_canFlush_1 : decode (mB M_X3_canFlush) 1 = .ok (.iconst (-1), 1) := by decide +kernel
theorem dX3_canFlush_2 : decode (mB M_X3_canFlush) 2 = .ok (.invokevirtual 109, 3) := by decide +kernel
theorem dX3_canFlush_5 : decode (mB M_X3_canFlush) 5 = .ok (.ifCond .eq 11, 3) := by decide +kernel
theorem dX3_canFlush_8 : decode (mB M_X3_canFlush) 8 = .ok (.aload_n 0, 1) := by decide +kernel
theorem dX3_canFlush_9 : decode (mB M_X3_canFlush) 9 = .ok (.getfield 34, 3) := by decide +kernel
theorem dX3_canFlush_12 : decode (mB M_X3_canFlush) 12 = .ok (.iconst 5, 1) := by decide +kernel
theorem dX3_canFlush_13 : decode (mB M_X3_canFlush) 13 = .ok (.if_icmp .lt 5, 3) := by decide +kernel
theorem dX3_canFlush_16 : decode (mB M_X3_canFlush) 16 = .ok (.iconst 0, 1) := by decide +kernel
theorem dX3_canFlush_17 : decode (mB M_X3_canFlush) 17 = .ok (.ireturn, 1) := by decide +kernel
theorem dX3_canFlush_18 : decode (mB M_X3_canFlush) 18 = .ok (.aload_n 0, 1) := by decide +kernel
theorem dX3_canFlush_19 : decode (mB M_X3_canFlush) 19 = .ok (.iconst (-1), 1) := by decide +kernel
theorem dX3_canFlush_20 : decode (mB M_X3_canFlush) 20 = .ok (.invokevirtual 69, 3) := by decide +kernel
theorem dX3_canFlush_23 : decode (mB M_X3_canFlush) 23 = .ok (.aload_n 0, 1) := by decide +kernel
theorem dX3_canFlush_24 : decode (mB M_X3_canFlush) 24 = .ok (.getfield 18, 3) := by decide +kernel
theorem dX3_canFlush_27 : decode (mB M_X3_canFlush) 27 = .ok (.aload_n 0, 1) := by decide +kernel
theorem dX3_canFlush_28 : decode (mB M_X3_canFlush) 28 = .ok (.iconst (-1), 1) := by decide +kernel
theorem dX3_canFlush_29 : decode (mB M_X3_canFlush) 29 = .ok (.iconst (-1), 1) := by decide +kernel
theorem dX3_canFlush_30 : decode (mB M_X3_canFlush) 30 = .ok (.invokevirtual 112, 3) := by decide +kernel
theorem dX3_canFlush_33 : decode (mB M_X3_canFlush) 33 = .ok (.iadd, 1) := by decide +kernel
theorem dX3_canFlush_34 : decode (mB M_X3_canFlush) 34 = .ok (.bipush 48, 2) := by decide +kernel
theorem dX3_canFlush_36 : decode (mB M_X3_canFlush) 36 = .ok (.if_icmp .gt 7, 3) := by decide +kernel
theorem dX3_canFlush_39 : decode (mB M_X3_canFlush) 39 = .ok (.iconst 1, 1) := by decide +kernel
theorem dX3_canFlush_40 : decode (mB M_X3_canFlush) 40 = .ok (.goto 4, 3) := by decide +kernel
theorem dX3_canFlush_43 : decode (mB M_X3_canFlush) 43 = .ok (.iconst 0, 1) := by decide +kernel
theorem dX3_canFlush_44 : decode (mB M_X3_canFlush) 44 = .ok (.ireturn, 1) := by decide +kernel
def b_X3_canFlush_0 (v0 : Nat) (h : HP) : Option (Int32 × HP) :=
  (f_X3_sizeOf h v0 (-1)).bind fun y1 => if y1 = 0 then some (0, h) else (gI 3 4 h v0).bind fun x3 => if x3 < 5 then (f_X3_startOf h v0 (-1)).bind fun y5 => (gR 3 0 h v0).bind fun x6 => (f_X0_clean h x6 v0 (-1) (-1)).bind fun y7 => if 48 < (y5 + y7.1) then some (0, y7.2) else some (1, y7.2) else some (0, h)
def f_X3_canFlush (h : HP) (v0 : Nat) : Option (Int32 × HP) := (kO 3 h v0).bind fun _ => b_X3_canFlush_0 v0 h
theorem w_X3_canFlush_0 {l : Launch} {X : SCR} {Q : PST} {bc bs : Nat} {res : Int32 × HP} {h : HP} (hQ : ∀ sz', Q (.inl (some (.int res.1))) res.2 sz') {v0 : Nat} {sz : Nat} (hf : b_X3_canFlush_0 v0 h  = some res) : SP l X M_X3_canFlush 0 [(0, .ref v0)] [] h sz bc bs Q := by
  rw [b_X3_canFlush_0] at hf
  refine sp_aload_n (pc := 0) dX3_canFlush_0 0 rfl ?_
  refine sp_iconst (pc := 1) (v := (-1)) dX3_canFlush_1 (by decide) ?_
  obtain ⟨y1, ey1, hf⟩ := ob hf
  obtain ⟨fsy1, hoy1⟩ := o_X3_sizeOf ey1
  refine sp_callVi (pc := 2) (z := M_X3_sizeOf) (As := [.int (-1)]) (b := v0) (bc2 := bc) (bs2 := bs) (m_X3_sizeOf (Q := _) (fun sz => ⟨y1, rfl, ?_⟩) ey1) rfl dX3_canFlush_2 hoy1 rfl rfl ck_X3_canFlush_109 (Nat.le_of_ble_eq_true rfl) rfl rfl rfl
  refine sp_if_eq (pc := 5) (tgt := 16) dX3_canFlush_5 (by decide) (fun c2 => ?_) (fun c2 => ?_)
  · rw [if_pos c2] at hf
    refine sp_iconst (pc := 16) (v := 0) dX3_canFlush_16 (by decide) ?_
    obtain rfl := Option.some.inj hf
    exact sp_ireturn (pc := 17) dX3_canFlush_17 rfl rfl (hQ _)
  · rw [if_neg c2] at hf
    refine sp_aload_n (pc := 8) dX3_canFlush_8 0 rfl ?_
    obtain ⟨x3, ex3, hf⟩ := ob hf
    refine sp_gI (pc := 9) fl_RX3_34 dX3_canFlush_9 ex3 ?_
    refine sp_iconst (pc := 12) (v := 5) dX3_canFlush_12 (by decide) ?_
    refine sp_icmp_lt (pc := 13) (tgt := 18) dX3_canFlush_13 (by decide) (fun c4 => ?_) (fun c4 => ?_)
    · rw [if_pos c4] at hf
      refine sp_aload_n (pc := 18) dX3_canFlush_18 0 rfl ?_
      refine sp_iconst (pc := 19) (v := (-1)) dX3_canFlush_19 (by decide) ?_
      obtain ⟨y5, ey5, hf⟩ := ob hf
      obtain ⟨fsy5, hoy5⟩ := o_X3_startOf ey5
      refine sp_callVi (pc := 20) (z := M_X3_startOf) (As := [.int (-1)]) (b := v0) (bc2 := bc) (bs2 := bs) (m_X3_startOf (Q := _) (fun sz => ⟨y5, rfl, ?_⟩) ey5) rfl dX3_canFlush_20 hoy5 rfl rfl ck_X3_canFlush_69 (Nat.le_of_ble_eq_true rfl) rfl rfl rfl
      refine sp_aload_n (pc := 23) dX3_canFlush_23 0 rfl ?_
      obtain ⟨x6, ex6, hf⟩ := ob hf
      refine sp_gR (pc := 24) fl_RX3_18 dX3_canFlush_24 ex6 ?_
      refine sp_aload_n (pc := 27) dX3_canFlush_27 0 rfl ?_
      refine sp_iconst (pc := 28) (v := (-1)) dX3_canFlush_28 (by decide) ?_
      refine sp_iconst (pc := 29) (v := (-1)) dX3_canFlush_29 (by decide) ?_
      obtain ⟨y7, ey7, hf⟩ := ob hf
      obtain ⟨fsy7, hoy7⟩ := o_X0_clean ey7
      refine sp_callVi (pc := 30) (z := M_X0_clean) (As := [.ref v0, .int (-1), .int (-1)]) (b := x6) (bc2 := bc) (bs2 := bs) (m_X0_clean (Q := _) (fun sz => ⟨y7.1, rfl, ?_⟩) ey7) rfl dX3_canFlush_30 hoy7 rfl rfl ck_X3_canFlush_112 (Nat.le_of_ble_eq_true rfl) rfl rfl rfl
      refine sp_iadd (pc := 33) dX3_canFlush_33 ?_
      refine sp_bipush (pc := 34) (v := 48) dX3_canFlush_34 (by decide) ?_
      refine sp_icmp_gt (pc := 36) (tgt := 43) dX3_canFlush_36 (by decide) (fun c8 => ?_) (fun c8 => ?_)
      · rw [if_pos c8] at hf
        refine sp_iconst (pc := 43) (v := 0) dX3_canFlush_43 (by decide) ?_
        obtain rfl := Option.some.inj hf
        exact sp_ireturn (pc := 44) dX3_canFlush_44 rfl rfl (hQ _)
      · rw [if_neg c8] at hf
        refine sp_iconst (pc := 39) (v := 1) dX3_canFlush_39 (by decide) ?_
        refine sp_goto (pc := 40) (tgt := 44) dX3_canFlush_40 (by decide) ?_
        obtain rfl := Option.some.inj hf
        exact sp_ireturn (pc := 44) dX3_canFlush_44 rfl rfl (hQ _)
    · rw [if_neg c4] at hf
      refine sp_iconst (pc := 16) (v := 0) dX3_canFlush_16 (by decide) ?_
      obtain rfl := Option.some.inj hf
      exact sp_ireturn (pc := 17) dX3_canFlush_17 rfl rfl (hQ _)

theorem o_X3_canFlush {h : HP} {v0 : Nat} {res : Int32 × HP} (hf : f_X3_canFlush h v0 = some res) : ∃ fs, h v0 = some (.inr (3, fs)) := by
  obtain ⟨u, eu, -⟩ := ob hf
  exact kO_spec eu

theorem m_X3_canFlush {l : Launch} {Q : PST} {h : HP} {v0 : Nat} {sz : Nat} {res : Int32 × HP} (hQ : ∀ sz', Q (.inl (some (.int res.1))) res.2 sz') (hf : f_X3_canFlush h v0 = some res) : MM l M_X3_canFlush [.ref v0] h sz Q := by
  obtain ⟨u, eu, hf⟩ := ob hf
  exact MM_of wok_X3_canFlush (by decide +kernel) (Nat.le_of_ble_eq_true rfl) ((w_X3_canFlush_0 hQ hf))

