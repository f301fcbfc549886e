theorem dX8_looks_0 : decode (mB M_X8_looks) 0 = .ok (.aload_n 0, 1) := by decide +kernel
theorem dX8_looks_1 : decode (mB M_X8_looks) 1 = .ok (.iload_n 1, 1) := by decide +kernel
theorem dX8_looks_2 : decode (mB M_X8_looks) 2 = .ok (.invokestatic 97, 3) := by decide +kernel
theorem dX8_looks_5 : decode (mB M_X8_looks) 5 = .ok (.ifCond .eq 7, 3) := by decide +kernel
theorem dX8_looks_8 : decode (mB M_X8_looks) 8 = .ok (.iconst 0, 1) := by decide +kernel
theorem dX8_looks_9 : decode (mB M_X8_looks) 9 = .ok (.goto 4, 3) := by decide +kernel
theorem dX8_looks_12 : decode (mB M_X8_looks) 12 = .ok (.iconst 1, 1) := by decide +kernel
theorem dX8_looks_13 : decode (mB M_X8_looks) 13 = .ok (.invokevirtual 124, 3) := by decide +kernel
theorem dX8_looks_16 : decode (mB M_X8_looks) 16 = .ok (.ifCond .eq 11, 3) := by decide +kernel
theorem dX8_looks_19 : decode (mB M_X8_looks) 19 = .ok (.aload_n 0, 1) := by decide +kernel
theorem dX8_looks_20 : decode (mB M_X8_looks) 20 = .ok (.iload_n 1, 1) := by decide +kernel
theorem dX8_looks_21 : decode (mB M_X8_looks) 21 = .ok (.invokevirtual 218, 3) := by decide +kernel
theorem dX8_looks_24 : decode (mB M_X8_looks) 24 = .ok (.goto 4, 3) := by decide +kernel
theorem dX8_looks_27 : decode (mB M_X8_looks) 27 = .ok (.iconst 0, 1) := by decide +kernel
theorem dX8_looks_28 : decode (mB M_X8_looks) 28 = .ok (.ireturn, 1) := by decide +kernel
def b_X8_looks_13 (v0 : Nat) (v1 : Int32) (h : HP) (s0 : Nat) (s1 : Int32) : Option (Int32 × HP) :=
  (f_X8_holds h s0 s1).bind fun y1 => if y1.1 = 0 then some (0, y1.2) else (f_X8_lookedAt y1.2 v0 v1).bind fun y3 => some (y3, y1.2)
def b_X8_looks_0 (v0 : Nat) (v1 : Int32) (h : HP) : Option (Int32 × HP) :=
  (f_X8_isKey h v1).bind fun y1 => if y1 = 0 then b_X8_looks_13 v0 v1 h v0 1 else b_X8_looks_13 v0 v1 h v0 0
def f_X8_looks (h : HP) (v0 : Nat) (v1 : Int32) : Option (Int32 × HP) := (kO 8 h v0).bind fun _ => b_X8_looks_0 v0 v1 h
theorem w_X8_looks_13 {l : Launch} {X : SCR} {Q : PST} {bc bs : Nat} {res : Int32 × HP} {h : HP} (hQ : ∀ sz', Q (.inl (some (.int res.1))) res.2 sz') {v0 : Nat} {v1 : Int32} {s0 : Nat} {s1 : Int32} {sz : Nat} (hf : b_X8_looks_13 v0 v1 h s0 s1 = some res) : SP l X M_X8_looks 13 [(0, .ref v0), (1, .int v1)] [.int s1, .ref s0] h sz bc bs Q := by
  rw [b_X8_looks_13] at hf
  obtain ⟨y1, ey1, hf⟩ := ob hf
  obtain ⟨fsy1, hoy1⟩ := o_X8_holds ey1
  refine sp_callVi (pc := 13) (z := M_X8_holds) (As := [.int s1]) (b := s0) (bc2 := bc) (bs2 := bs) (m_X8_holds (Q := _) (fun sz => ⟨y1.1, rfl, ?_⟩) ey1) rfl dX8_looks_13 hoy1 rfl rfl ck_X8_looks_124 (Nat.le_of_ble_eq_true rfl) rfl rfl rfl
  refine sp_if_eq (pc := 16) (tgt := 27) dX8_looks_16 (by decide) (fun c2 => ?_) (fun c2 => ?_)
  · rw [if_pos c2] at hf
    refine sp_iconst (pc := 27) (v := 0) dX8_looks_27 (by decide) ?_
    obtain rfl := Option.some.inj hf
    exact sp_ireturn (pc := 28) dX8_looks_28 rfl rfl (hQ _)
  · rw [if_neg c2] at hf
    refine sp_aload_n (pc := 19) dX8_looks_19 0 rfl ?_
    refine sp_iload_n (pc := 20) dX8_looks_20 1 rfl ?_
    obtain ⟨y3, ey3, hf⟩ := ob hf
    obtain ⟨fsy3, hoy3⟩ := o_X8_lookedAt ey3
    refine sp_callVi (pc := 21) (z := M_X8_lookedAt) (As := [.int v1]) (b := v0) (bc2 := bc) (bs2 := bs) (m_X8_lookedAt (Q := _) (fun sz => ⟨y3, rfl, ?_⟩) ey3) rfl dX8_looks_21 hoy3 rfl rfl ck_X8_looks_218 (Nat.le_of_ble_eq_true rfl) rfl rfl rfl
    refine sp_goto (pc := 24) (tgt := 28) dX8_looks_24 (by decide) ?_
    obtain rfl := Option.some.inj hf
    exact sp_ireturn (pc := 28) dX8_looks_28 rfl rfl (hQ _)

theorem w_X8_looks_0 {l : Launch} {X : SCR} {Q : PST} {bc bs : Nat} {res : Int32 × HP} {h : HP} (hQ : ∀ sz', Q (.inl (some (.int res.1))) res.2 sz') {v0 : Nat} {v1 : Int32} {sz : Nat} (hf : b_X8_looks_0 v0 v1 h  = some res) : SP l X M_X8_looks 0 [(0, .ref v0), (1, .int v1)] [] h sz bc bs Q := by
  rw [b_X8_looks_0] at hf
  refine sp_aload_n (pc := 0) dX8_looks_0 0 rfl ?_
  refine sp_iload_n (pc := 1) dX8_looks_1 1 rfl ?_
  obtain ⟨y1, ey1, hf⟩ := ob hf
  refine sp_callSi (pc := 2) (z := M_X8_isKey) (As := [.int v1]) (bc2 := bc) (bs2 := bs) (m_X8_isKey (Q := _) (fun sz => ⟨y1, rfl, ?_⟩) ey1) rfl dX8_looks_2 rfl ck_X8_looks_97 (Nat.le_of_ble_eq_true rfl) rfl rfl rfl
  refine sp_if_eq (pc := 5) (tgt := 12) dX8_looks_5 (by decide) (fun c2 => ?_) (fun c2 => ?_)
  · rw [if_pos c2] at hf
    refine sp_iconst (pc := 12) (v := 1) dX8_looks_12 (by decide) ?_
    exact (w_X8_looks_13 hQ hf)
  · rw [if_neg c2] at hf
    refine sp_iconst (pc := 8) (v := 0) dX8_looks_8 (by decide) ?_
    refine sp_goto (pc := 9) (tgt := 13) dX8_looks_9 (by decide) ?_
    exact (w_X8_looks_13 hQ hf)

theorem o_X8_looks {h : HP} {v0 : Nat} {v1 : Int32} {res : Int32 × HP} (hf : f_X8_looks h v0 v1 = some res) : ∃ fs, h v0 = some (.inr (8, fs)) := by
  obtain ⟨u, eu, -⟩ := ob hf
  exact kO_spec eu

theorem m_X8_looks {l : Launch} {Q : PST} {h : HP} {v0 : Nat} {v1 : Int32} {sz : Nat} {res : Int32 × HP} (hQ : ∀ sz', Q (.inl (some (.int res.1))) res.2 sz') (hf : f_X8_looks h v0 v1 = some res) : MM l M_X8_looks [.ref v0, .int v1] h sz Q := by
  obtain ⟨u, eu, hf⟩ := ob hf
  exact MM_of wok_X8_looks (by decide +kernel) (Nat.le_of_ble_eq_true rfl) ((w_X8_looks_0 hQ hf))

theorem dX8_nextSeen_0 : decode (mB M_X8_nextSeen) 0 = .ok (.iload_n 1, 1) := by decide +kernel
theorem dX8_nextSeen_1 : decode (mB M_X8_nextSeen) 1 = .ok (.istore_n 3, 1) := by decide +kernel
theorem dX8_nextSeen_2 : decode (mB M_X8_nextSeen) 2 = .ok (.iload_n 3, 1) := by decide +kernel
theorem dX8_nextSeen_3 : decode (mB M_X8_nextSeen) 3 = .ok (.bipush 100, 2) := by decide +kernel
theorem dX8_nextSeen_5 : decode (mB M_X8_nextSeen) 5 = .ok (.if_icmp .ge 21, 3) := by decide +kernel
theorem dX8_nextSeen_8 : decode (mB M_X8_nextSeen) 8 = .ok (.aload_n 0, 1) := by decide +kernel
theorem dX8_nextSeen_9 : decode (mB M_X8_nextSeen) 9 = .ok (.iload_n 3, 1) := by decide +kernel
theorem dX8_nextSeen_10 : decode (mB M_X8_nextSeen) 10 = .ok (.iload_n 2, 1) := by decide +kernel
theorem dX8_nextSeen_11 : decode (mB M_X8_nextSeen) 11 = .ok (.invokevirtual 72, 3) := by decide +kernel
theorem dX8_nextSeen_14 : decode (mB M_X8_nextSeen) 14 = .ok (.iconst (-1), 1) := by decide +kernel
theorem dX8_nextSeen_15 : decode (mB M_X8_nextSeen) 15 = .ok (.if_icmp .eq 5, 3) := by decide +kernel
theorem dX8_nextSeen_18 : decode (mB M_X8_nextSeen) 18 = .ok (.iload_n 3, 1) := by decide +kernel
theorem dX8_nextSeen_19 : decode (mB M_X8_nextSeen) 19 = .ok (.ireturn, 1) := by decide +kernel
theorem dX8_nextSeen_20 : decode (mB M_X8_nextSeen) 20 = .ok (.iinc 3 1, 3) := by decide +kernel
theorem dX8_nextSeen_23 : decode (mB M_X8_nextSeen) 23 = .ok (.goto (-21), 3) := by decide +kernel
theorem dX8_nextSeen_26 : decode (mB M_X8_nextSeen) 26 = .ok (.iconst (-1), 1) := by decide +kernel
theorem dX8_nextSeen_27 : decode (mB M_X8_nextSeen) 27 = .ok (.ireturn, 1) := by decide +kernel
def c_X8_nextSeen_2 (h : HP) (v0 : Nat) (v2 : Int32) (k2 : Int32 → Option (Int32)) (v3 : Int32) : Option (Int32) :=
  if 100 ≤ v3 then some ((-1)) else (f_X8_seen h v0 v3 v2).bind fun y2 => if y2 = (-1) then k2 (v3 + 1) else some (v3)
def b_X8_nextSeen_2 (h : HP) (v0 : Nat) (v2 : Int32) : Nat → Int32 → Option (Int32)
  | 0, _ => none
  | n + 1, v3 => c_X8_nextSeen_2 h v0 v2 (b_X8_nextSeen_2 h v0 v2 n) v3
def b_X8_nextSeen_0 (h : HP) (v0 : Nat) (v1 : Int32) (v2 : Int32) : Option (Int32) :=
  b_X8_nextSeen_2 h v0 v2 FU v1
def f_X8_nextSeen (h : HP) (v0 : Nat) (v1 : Int32) (v2 : Int32) : Option (Int32) := (kO 8 h v0).bind fun _ => b_X8_nextSeen_0 h v0 v1 v2
theorem wc_X8_nextSeen_2 {l : Launch} {X : SCR} {Q : PST} {bc bs : Nat} {res : Int32} {h : HP} (hQ : ∀ sz', Q (.inl (some (.int res))) h sz') {v0 : Nat} {v2 : Int32} {k2 : Int32 → Option (Int32)} (hk2 : ∀ (v3 : Int32) (sz : Nat), k2 v3 = some res → SP l X M_X8_nextSeen 2 [(0, .ref v0), (2, .int v2), (3, .int v3)] [] h sz bc bs Q) {v3 : Int32} {sz : Nat} (hf : c_X8_nextSeen_2 h v0 v2 k2 v3 = some res) : SP l X M_X8_nextSeen 2 [(0, .ref v0), (2, .int v2), (3, .int v3)] [] h sz bc bs Q := by
  rw [c_X8_nextSeen_2] at hf
  refine sp_iload_n (pc := 2) dX8_nextSeen_2 2 rfl ?_
  refine sp_bipush (pc := 3) (v := 100) dX8_nextSeen_3 (by decide) ?_
  refine sp_icmp_ge (pc := 5) (tgt := 26) dX8_nextSeen_5 (by decide) (fun c1 => ?_) (fun c1 => ?_)
  · rw [if_pos c1] at hf
    refine sp_iconst (pc := 26) (v := (-1)) dX8_nextSeen_26 (by decide) ?_
    obtain rfl := Option.some.inj hf
    exact sp_ireturn (pc := 27) dX8_nextSeen_27 rfl rfl (hQ _)
  · rw [if_neg c1] at hf
    refine sp_aload_n (pc := 8) dX8_nextSeen_8 0 rfl ?_
    refine sp_iload_n (pc := 9) dX8_nextSeen_9 2 rfl ?_
    refine sp_iload_n (pc := 10) dX8_nextSeen_10 1 rfl ?_
    obtain ⟨y2, ey2, hf⟩ := ob hf
    obtain ⟨fsy2, hoy2⟩ := o_X8_seen ey2
    refine sp_callVi (pc := 11) (z := M_X8_seen) (As := [.int v3, .int v2]) (b := v0) (bc2 := bc) (bs2 := bs) (m_X8_seen (Q := _) (fun sz => ⟨y2, rfl, ?_⟩) ey2) rfl dX8_nextSeen_11 hoy2 rfl rfl ck_X8_nextSeen_72 (Nat.le_of_ble_eq_true rfl) rfl rfl rfl
    refine sp_iconst (pc := 14) (v := (-1)) dX8_nextSeen_14 (by decide) ?_
    refine sp_icmp_eq (pc := 15) (tgt := 20) dX8_nextSeen_15 (by decide) (fun c3 => ?_) (fun c3 => ?_)
    · rw [if_pos c3] at hf
      refine sp_iinc (pc := 20) (v := v3 + 1) (lv' := [(3, .int (v3 + 1)), (0, .ref v0), (2, .int v2)]) dX8_nextSeen_20 2 rfl rfl (by decide) rfl ?_
      refine sp_goto (pc := 23) (tgt := 2) dX8_nextSeen_23 (by decide) ?_
      exact sp_sub [1, 2, 0] rfl (hk2 _ _ hf)
    · rw [if_neg c3] at hf
      refine sp_iload_n (pc := 18) dX8_nextSeen_18 2 rfl ?_
      obtain rfl := Option.some.inj hf
      exact sp_ireturn (pc := 19) dX8_nextSeen_19 rfl rfl (hQ _)

theorem w_X8_nextSeen_2 {l : Launch} {X : SCR} {Q : PST} {bc bs : Nat} {res : Int32} {h : HP} (hQ : ∀ sz', Q (.inl (some (.int res))) h sz') {v0 : Nat} {v2 : Int32} : ∀ (n : Nat) {v3 : Int32} {sz : Nat}, b_X8_nextSeen_2 h v0 v2 n v3 = some res → SP l X M_X8_nextSeen 2 [(0, .ref v0), (2, .int v2), (3, .int v3)] [] h sz bc bs Q := by
  intro n
  induction n with
  | zero =>
    intro v3 sz hf
    rw [b_X8_nextSeen_2] at hf
    cases hf
  | succ n ih =>
    intro v3 sz hf
    rw [b_X8_nextSeen_2] at hf
    exact wc_X8_nextSeen_2 hQ (fun v3 sz hf => ih hf) hf

theorem w_X8_nextSeen_0 {l : Launch} {X : SCR} {Q : PST} {bc bs : Nat} {res : Int32} {h : HP} (hQ : ∀ sz', Q (.inl (some (.int res))) h sz') {v0 : Nat} {v1 : Int32} {v2 : Int32} {sz : Nat} (hf : b_X8_nextSeen_0 h v0 v1 v2  = some res) : SP l X M_X8_nextSeen 0 [(0, .ref v0), (1, .int v1), (2, .int v2)] [] h sz bc bs Q := by
  rw [b_X8_nextSeen_0] at hf
  refine sp_iload_n (pc := 0) dX8_nextSeen_0 1 rfl ?_
  refine sp_istore_n (pc := 1) (lv' := [(3, .int v1), (0, .ref v0), (1, .int v1), (2, .int v2)]) dX8_nextSeen_1 (by decide) rfl ?_
  exact sp_sub [1, 3, 0] rfl (w_X8_nextSeen_2 hQ FU hf)

theorem o_X8_nextSeen {h : HP} {v0 : Nat} {v1 : Int32} {v2 : Int32} {res : Int32} (hf : f_X8_nextSeen h v0 v1 v2 = some res) : ∃ fs, h v0 = some (.inr (8, fs)) := by
  obtain ⟨u, eu, -⟩ := ob hf
  exact kO_spec eu

theorem m_X8_nextSeen {l : Launch} {Q : PST} {h : HP} {v0 : Nat} {v1 : Int32} {v2 : Int32} {sz : Nat} {res : Int32} (hQ : ∀ sz', Q (.inl (some (.int res))) h sz') (hf : f_X8_nextSeen h v0 v1 v2 = some res) : MM l M_X8_nextSeen [.ref v0, .int v1, .int v2] h sz Q := by
  obtain ⟨u, eu, hf⟩ := ob hf
  exact MM_of wok_X8_nextSeen (by decide +kernel) (Nat.le_of_ble_eq_true rfl) ((w_X8_nextSeen_0 hQ hf))

theorem dX8_next_0 : decode (mB M_X8_next) 0 = .ok (.aload_n 0, 1) := by decide +kernel
theorem dX8_next_1 : decode (mB M_X8_next) 1 = .ok (.iload_n 1, 1) := by decide +kernel
theorem dX8_next_2 : decode (mB M_X8_next) 2 = .ok (.invokestatic 97, 3) := by decide +kernel
theorem dX8_next_5 : decode (mB M_X8_next) 5 = .ok (.ifCond .eq 15, 3) := by decide +kernel
theorem dX8_next_8 : decode (mB M_X8_next) 8 = .ok (.aload_n 0, 1) := by decide +kernel
theorem dX8_next_9 : decode (mB M_X8_next) 9 = .ok (.iload_n 2, 1) := by decide +kernel
theorem dX8_next_10 : decode (mB M_X8_next) 10 = .ok (.invokevirtual 200, 3) := by decide +kernel
theorem dX8_next_13 : decode (mB M_X8_next) 13 = .ok (.ifCond .eq 7, 3) := by decide +kernel
theorem dX8_next_16 : decode (mB M_X8_next) 16 = .ok (.iconst 0, 1) := by decide +kernel
theorem dX8_next_17 : decode (mB M_X8_next) 17 = .ok (.goto 4, 3) := by decide +kernel
theorem dX8_next_20 : decode (mB M_X8_next) 20 = .ok (.iconst 1, 1) := by decide +kernel
theorem dX8_next_21 : decode (mB M_X8_next) 21 = .ok (.invokevirtual 124, 3) := by decide +kernel
theorem dX8_next_24 : decode (mB M_X8_next) 24 = .ok (.ifCond .eq 12, 3) := by decide +kernel
theorem dX8_next_27 : decode (mB M_X8_next) 27 = .ok (.aload_n 0, 1) := by decide +kernel
theorem dX8_next_28 : decode (mB M_X8_next) 28 = .ok (.iload_n 1, 1) := by decide +kernel
theorem dX8_next_29 : decode (mB M_X8_next) 29 = .ok (.iload_n 2, 1) := by decide +kernel
theorem dX8_next_30 : decode (mB M_X8_next) 30 = .ok (.invokevirtual 221, 3) := by decide +kernel
theorem dX8_next_33 : decode (mB M_X8_next) 33 = .ok (.goto 4, 3) := by decide +kernel
theorem dX8_next_36 : decode (mB M_X8_next) 36 = .ok (.iconst 0, 1) := by decide +kernel
theorem dX8_next_37 : decode (mB M_X8_next) 37 = .ok (.ireturn, 1) := by decide +kernel
def b_X8_next_21 (v0 : Nat) (v1 : Int32) (v2 : Int32) (h : HP) (s0 : Nat) (s1 : Int32) : Option (Int32 × HP) :=
  (f_X8_holds h s0 s1).bind fun y1 => if y1.1 = 0 then some (0, y1.2) else (f_X8_nextSeen y1.2 v0 v1 v2).bind fun y3 => some (y3, y1.2)
def b_X8_next_0 (v0 : Nat) (v1 : Int32) (v2 : Int32) (h : HP) : Option (Int32 × HP) :=
  (f_X8_isKey h v1).bind fun y1 => if y1 = 0 then b_X8_next_21 v0 v1 v2 h v0 1 else (f_X8_isView h v0 v2).bind fun y3 => if y3 = 0 then b_X8_next_21 v0 v1 v2 h v0 1 else b_X8_next_21 v0 v1 v2 h v0 0
def f_X8_next (h : HP) (v0 : Nat) (v1 : Int32) (v2 : Int32) : Option (Int32 × HP) := (kO 8 h v0).bind fun _ => b_X8_next_0 v0 v1 v2 h
theorem w_X8_next_21 {l : Launch} {X : SCR} {Q : PST} {bc bs : Nat} {res : Int32 × HP} {h : HP} (hQ : ∀ sz', Q (.inl (some (.int res.1))) res.2 sz') {v0 : Nat} {v1 : Int32} {v2 : Int32} {s0 : Nat} {s1 : Int32} {sz : Nat} (hf : b_X8_next_21 v0 v1 v2 h s0 s1 = some res) : SP l X M_X8_next 21 [(0, .ref v0), (1, .int v1), (2, .int v2)] [.int s1, .ref s0] h sz bc bs Q := by
  rw [b_X8_next_21] at hf
  obtain ⟨y1, ey1, hf⟩ := ob hf
  obtain ⟨fsy1, hoy1⟩ := o_X8_holds ey1
  refine sp_callVi (pc := 21) (z := M_X8_holds) (As := [.int s1]) (b := s0) (bc2 := bc) (bs2 := bs) (m_X8_holds (Q := _) (fun sz => ⟨y1.1, rfl, ?_⟩) ey1) rfl dX8_next_21 hoy1 rfl rfl ck_X8_next_124 (Nat.le_of_ble_eq_true rfl) rfl rfl rfl
  refine sp_if_eq (pc := 24) (tgt := 36) dX8_next_24 (by decide) (fun c2 => ?_) (fun c2 => ?_)
  · rw [if_pos c2] at hf
    refine sp_iconst (pc := 36) (v := 0) dX8_next_36 (by decide) ?_
    obtain rfl := Option.some.inj hf
    exact sp_ireturn (pc := 37) dX8_next_37 rfl rfl (hQ _)
  · rw [if_neg c2] at hf
    refine sp_aload_n (pc := 27) dX8_next_27 0 rfl ?_
    refine sp_iload_n (pc := 28) dX8_next_28 1 rfl ?_
    refine sp_iload_n (pc := 29) dX8_next_29 2 rfl ?_
    obtain ⟨y3, ey3, hf⟩ := ob hf
    obtain ⟨fsy3, hoy3⟩ := o_X8_nextSeen ey3
    refine sp_callVi (pc := 30) (z := M_X8_nextSeen) (As := [.int v1, .int v2]) (b := v0) (bc2 := bc) (bs2 := bs) (m_X8_nextSeen (Q := _) (fun sz => ⟨y3, rfl, ?_⟩) ey3) rfl dX8_next_30 hoy3 rfl rfl ck_X8_next_221 (Nat.le_of_ble_eq_true rfl) rfl rfl rfl
    refine sp_goto (pc := 33) (tgt := 37) dX8_next_33 (by decide) ?_
    obtain rfl := Option.some.inj hf
    exact sp_ireturn (pc := 37) dX8_next_37 rfl rfl (hQ _)

theorem w_X8_next_0 {l : Launch} {X : SCR} {Q : PST} {bc bs : Nat} {res : Int32 × HP} {h : HP} (hQ : ∀ sz', Q (.inl (some (.int res.1))) res.2 sz') {v0 : Nat} {v1 : Int32} {v2 : Int32} {sz : Nat} (hf : b_X8_next_0 v0 v1 v2 h  = some res) : SP l X M_X8_next 0 [(0, .ref v0), (1, .int v1), (2, .int v2)] [] h sz bc bs Q := by
  rw [b_X8_next_0] at hf
  refine sp_aload_n (pc := 0) dX8_next_0 0 rfl ?_
  refine sp_iload_n (pc := 1) dX8_next_1 1 rfl ?_
  obtain ⟨y1, ey1, hf⟩ := ob hf
  refine sp_callSi (pc := 2) (z := M_X8_isKey) (As := [.int v1]) (bc2 := bc) (bs2 := bs) (m_X8_isKey (Q := _) (fun sz => ⟨y1, rfl, ?_⟩) ey1) rfl dX8_next_2 rfl ck_X8_next_97 (Nat.le_of_ble_eq_true rfl) rfl rfl rfl
  refine sp_if_eq (pc := 5) (tgt := 20) dX8_next_5 (by decide) (fun c2 => ?_) (fun c2 => ?_)
  · rw [if_pos c2] at hf
    refine sp_iconst (pc := 20) (v := 1) dX8_next_20 (by decide) ?_
    exact (w_X8_next_21 hQ hf)
  · rw [if_neg c2] at hf
    refine sp_aload_n (pc := 8) dX8_next_8 0 rfl ?_
    refine sp_iload_n (pc := 9) dX8_next_9 2 rfl ?_
    obtain ⟨y3, ey3, hf⟩ := ob hf
    obtain ⟨fsy3, hoy3⟩ := o_X8_isView ey3
    refine sp_callVi (pc := 10) (z := M_X8_isView) (As := [.int v2]) (b := v0) (bc2 := bc) (bs2 := bs) (m_X8_isView (Q := _) (fun sz => ⟨y3, rfl, ?_⟩) ey3) rfl dX8_next_10 hoy3 rfl rfl ck_X8_next_200 (Nat.le_of_ble_eq_true rfl) rfl rfl rfl
    refine sp_if_eq (pc := 13) (tgt := 20) dX8_next_13 (by decide) (fun c4 => ?_) (fun c4 => ?_)
    · rw [if_pos c4] at hf
      refine sp_iconst (pc := 20) (v := 1) dX8_next_20 (by decide) ?_
      exact (w_X8_next_21 hQ hf)
    · rw [if_neg c4] at hf
      refine sp_iconst (pc := 16) (v := 0) dX8_next_16 (by decide) ?_
      refine sp_goto (pc := 17) (tgt := 21) dX8_next_17 (by decide) ?_
      exact (w_X8_next_21 hQ hf)

theorem o_X8_next {h : HP} {v0 : Nat} {v1 : Int32} {v2 : Int32} {res : Int32 × HP} (hf : f_X8_next h v0 v1 v2 = some res) : ∃ fs, h v0 = some (.inr (8, fs)) := by
  obtain ⟨u, eu, -⟩ := ob hf
  exact kO_spec eu

theorem m_X8_next {l : Launch} {Q : PST} {h : HP} {v0 : Nat} {v1 : Int32} {v2 : Int32} {sz : Nat} {res : Int32 × HP} (hQ : ∀ sz', Q (.inl (some (.int res.1))) res.2 sz') (hf : f_X8_next h v0 v1 v2 = some res) : MM l M_X8_next [.ref v0, .int v1, .int v2] h sz Q := by
  obtain ⟨u, eu, hf⟩ := ob hf
  exact MM_of wok_X8_next (by decide +kernel) (Nat.le_of_ble_eq_true rfl) ((w_X8_next_0 hQ hf))

theorem dX8_count_0 : decode (mB M_X8_count) 0 = .ok (.iload_n 1, 1) := by decide +kernel
theorem dX8_count_1 : decode (mB M_X8_count) 1 = .ok (.invokestatic 97, 3) := by decide +kernel
theorem dX8_count_4 : decode (mB M_X8_count) 4 = .ok (.ifCond .eq 18, 3) := by decide +kernel
theorem dX8_count_7 : decode (mB M_X8_count) 7 = .ok (.iload_n 2, 1) := by decide +kernel
theorem dX8_count_8 : decode (mB M_X8_count) 8 = .ok (.invokestatic 97, 3) := by decide +kernel
theorem dX8_count_11 : decode (mB M_X8_count) 11 = .ok (.ifCond .eq 11, 3) := by decide +kernel
theorem dX8_count_14 : decode (mB M_X8_count) 14 = .ok (.aload_n 0, 1) := by decide +kernel
theorem dX8_count_15 : decode (mB M_X8_count) 15 = .ok (.iload_n 3, 1) := by decide +kernel
theorem dX8_count_16 : decode (mB M_X8_count) 16 = .ok (.invokevirtual 200, 3) := by decide +kernel
theorem dX8_count_19 : decode (mB M_X8_count) 19 = .ok (.ifCond .ne 7, 3) := by decide +kernel
theorem dX8_count_22 : decode (mB M_X8_count) 22 = .ok (.iconst 1, 1) := by decide +kernel
theorem dX8_count_23 : decode (mB M_X8_count) 23 = .ok (.goto 13, 3) := by decide +kernel
theorem dX8_count_26 : decode (mB M_X8_count) 26 = .ok (.iload_n 2, 1) := by decide +kernel
theorem dX8_count_27 : decode (mB M_X8_count) 27 = .ok (.iload_n 1, 1) := by decide +kernel
theorem dX8_count_28 : decode (mB M_X8_count) 28 = .ok (.if_icmp .ge 7, 3) := by decide +kernel
theorem dX8_count_31 : decode (mB M_X8_count) 31 = .ok (.iconst 2, 1) := by decide +kernel
theorem dX8_count_32 : decode (mB M_X8_count) 32 = .ok (.goto 4, 3) := by decide +kernel
theorem dX8_count_35 : decode (mB M_X8_count) 35 = .ok (.iconst 0, 1) := by decide +kernel
theorem dX8_count_36 : decode (mB M_X8_count) 36 = .ok (.istore 4, 2) := by decide +kernel
theorem dX8_count_38 : decode (mB M_X8_count) 38 = .ok (.aload_n 0, 1) := by decide +kernel
theorem dX8_count_39 : decode (mB M_X8_count) 39 = .ok (.iload 4, 2) := by decide +kernel
theorem dX8_count_41 : decode (mB M_X8_count) 41 = .ok (.invokevirtual 124, 3) := by decide +kernel
theorem dX8_count_44 : decode (mB M_X8_count) 44 = .ok (.ifCond .eq 13, 3) := by decide +kernel
theorem dX8_count_47 : decode (mB M_X8_count) 47 = .ok (.aload_n 0, 1) := by decide +kernel
theorem dX8_count_48 : decode (mB M_X8_count) 48 = .ok (.iload_n 1, 1) := by decide +kernel
theorem dX8_count_49 : decode (mB M_X8_count) 49 = .ok (.iload_n 2, 1) := by decide +kernel
theorem dX8_count_50 : decode (mB M_X8_count) 50 = .ok (.iload_n 3, 1) := by decide +kernel
theorem dX8_count_51 : decode (mB M_X8_count) 51 = .ok (.invokevirtual 100, 3) := by decide +kernel
theorem dX8_count_54 : decode (mB M_X8_count) 54 = .ok (.goto 4, 3) := by decide +kernel
theorem dX8_count_57 : decode (mB M_X8_count) 57 = .ok (.iconst 0, 1) := by decide +kernel
theorem dX8_count_58 : decode (mB M_X8_count) 58 = .ok (.ireturn, 1) := by decide +kernel
def b_X8_count_36 (v0 : Nat) (v1 : Int32) (v2 : Int32) (v3 : Int32) (h : HP) (s0 : Int32) : Option (Int32 × HP) :=
  (f_X8_holds h v0 s0).bind fun y1 => if y1.1 = 0 then some (0, y1.2) else (f_X8_countSeen y1.2 v0 v1 v2 v3).bind fun y3 => some (y3, y1.2)
def b_X8_count_0 (v0 : Nat) (v1 : Int32) (v2 : Int32) (v3 : Int32) (h : HP) : Option (Int32 × HP) :=
  (f_X8_isKey h v1).bind fun y1 => if y1 = 0 then b_X8_count_36 v0 v1 v2 v3 h 1 else (f_X8_isKey h v2).bind fun y3 => if y3 = 0 then b_X8_count_36 v0 v1 v2 v3 h 1 else (f_X8_isView h v0 v3).bind fun y5 => if y5 = 0 then b_X8_count_36 v0 v1 v2 v3 h 1 else if v1 ≤ v2 then b_X8_count_36 v0 v1 v2 v3 h 0 else b_X8_count_36 v0 v1 v2 v3 h 2
def f_X8_count (h : HP) (v0 : Nat) (v1 : Int32) (v2 : Int32) (v3 : Int32) : Option (Int32 × HP) := (kO 8 h v0).bind fun _ => b_X8_count_0 v0 v1 v2 v3 h
theorem w_X8_count_36 {l : Launch} {X : SCR} {Q : PST} {bc bs : Nat} {res : Int32 × HP} {h : HP} (hQ : ∀ sz', Q (.inl (some (.int res.1))) res.2 sz') {v0 : Nat} {v1 : Int32} {v2 : Int32} {v3 : Int32} {s0 : Int32} {sz : Nat} (hf : b_X8_count_36 v0 v1 v2 v3 h s0 = some res) : SP l X M_X8_count 36 [(0, .ref v0), (1, .int v1), (2, .int v2), (3, .int v3)] [.int s0] h sz bc bs Q := by
  rw [b_X8_count_36] at hf
  refine sp_istore (pc := 36) (lv' := [(4, .int s0), (0, .ref v0), (1, .int v1), (2, .int v2), (3, .int v3)]) dX8_count_36 (by decide) rfl ?_
  refine sp_aload_n (pc := 38) dX8_count_38 1 rfl ?_
  refine sp_iload (pc := 39) dX8_count_39 0 rfl ?_
  obtain ⟨y1, ey1, hf⟩ := ob hf
  obtain ⟨fsy1, hoy1⟩ := o_X8_holds ey1
  refine sp_callVi (pc := 41) (z := M_X8_holds) (As := [.int s0]) (b := v0) (bc2 := bc) (bs2 := bs) (m_X8_holds (Q := _) (fun sz => ⟨y1.1, rfl, ?_⟩) ey1) rfl dX8_count_41 hoy1 rfl rfl ck_X8_count_124 (Nat.le_of_ble_eq_true rfl) rfl rfl rfl
  refine sp_if_eq (pc := 44) (tgt := 57) dX8_count_44 (by decide) (fun c2 => ?_) (fun c2 => ?_)
  · rw [if_pos c2] at hf
    refine sp_iconst (pc := 57) (v := 0) dX8_count_57 (by decide) ?_
    obtain rfl := Option.some.inj hf
    exact sp_ireturn (pc := 58) dX8_count_58 rfl rfl (hQ _)
  · rw [if_neg c2] at hf
    refine sp_aload_n (pc := 47) dX8_count_47 1 rfl ?_
    refine sp_iload_n (pc := 48) dX8_count_48 2 rfl ?_
    refine sp_iload_n (pc := 49) dX8_count_49 3 rfl ?_
    refine sp_iload_n (pc := 50) dX8_count_50 4 rfl ?_
    obtain ⟨y3, ey3, hf⟩ := ob hf
    obtain ⟨fsy3, hoy3⟩ := o_X8_countSeen ey3
    refine sp_callVi (pc := 51) (z := M_X8_countSeen) (As := [.int v1, .int v2, .int v3]) (b := v0) (bc2 := bc) (bs2 := bs) (m_X8_countSeen (Q := _) (fun sz => ⟨y3, rfl, ?_⟩) ey3) rfl dX8_count_51 hoy3 rfl rfl ck_X8_count_100 (Nat.le_of_ble_eq_true rfl) rfl rfl rfl
    refine sp_goto (pc := 54) (tgt := 58) dX8_count_54 (by decide) ?_
    obtain rfl := Option.some.inj hf
    exact sp_ireturn (pc := 58) dX8_count_58 rfl rfl (hQ _)

theorem w_X8_count_0 {l : Launch} {X : SCR} {Q : PST} {bc bs : Nat} {res : Int32 × HP} {h : HP} (hQ : ∀ sz', Q (.inl (some (.int res.1))) res.2 sz') {v0 : Nat} {v1 : Int32} {v2 : Int32} {v3 : Int32} {sz : Nat} (hf : b_X8_count_0 v0 v1 v2 v3 h  = some res) : SP l X M_X8_count 0 [(0, .ref v0), (1, .int v1), (2, .int v2), (3, .int v3)] [] h sz bc bs Q := by
  rw [b_X8_count_0] at hf
  refine sp_iload_n (pc := 0) dX8_count_0 1 rfl ?_
  obtain ⟨y1, ey1, hf⟩ := ob hf
  refine sp_callSi (pc := 1) (z := M_X8_isKey) (As := [.int v1]) (bc2 := bc) (bs2 := bs) (m_X8_isKey (Q := _) (fun sz => ⟨y1, rfl, ?_⟩) ey1) rfl dX8_count_1 rfl ck_X8_count_97 (Nat.le_of_ble_eq_true rfl) rfl rfl rfl
  refine sp_if_eq (pc := 4) (tgt := 22) dX8_count_4 (by decide) (fun c2 => ?_) (fun c2 => ?_)
  · rw [if_pos c2] at hf
    refine sp_iconst (pc := 22) (v := 1) dX8_count_22 (by decide) ?_
    refine sp_goto (pc := 23) (tgt := 36) dX8_count_23 (by decide) ?_
    exact (w_X8_count_36 hQ hf)
  · rw [if_neg c2] at hf
    refine sp_iload_n (pc := 7) dX8_count_7 2 rfl ?_
    obtain ⟨y3, ey3, hf⟩ := ob hf
    refine sp_callSi (pc := 8) (z := M_X8_isKey) (As := [.int v2]) (bc2 := bc) (bs2 := bs) (m_X8_isKey (Q := _) (fun sz => ⟨y3, rfl, ?_⟩) ey3) rfl dX8_count_8 rfl ck_X8_count_97 (Nat.le_of_ble_eq_true rfl) rfl rfl rfl
    refine sp_if_eq (pc := 11) (tgt := 22) dX8_count_11 (by decide) (fun c4 => ?_) (fun c4 => ?_)
    · rw [if_pos c4] at hf
      refine sp_iconst (pc := 22) (v := 1) dX8_count_22 (by decide) ?_
      refine sp_goto (pc := 23) (tgt := 36) dX8_count_23 (by decide) ?_
      exact (w_X8_count_36 hQ hf)
    · rw [if_neg c4] at hf
      refine sp_aload_n (pc := 14) dX8_count_14 0 rfl ?_
      refine sp_iload_n (pc := 15) dX8_count_15 3 rfl ?_
      obtain ⟨y5, ey5, hf⟩ := ob hf
      obtain ⟨fsy5, hoy5⟩ := o_X8_isView ey5
      refine sp_callVi (pc := 16) (z := M_X8_isView) (As := [.int v3]) (b := v0) (bc2 := bc) (bs2 := bs) (m_X8_isView (Q := _) (fun sz => ⟨y5, rfl, ?_⟩) ey5) rfl dX8_count_16 hoy5 rfl rfl ck_X8_count_200 (Nat.le_of_ble_eq_true rfl) rfl rfl rfl
      refine sp_if_ne (pc := 19) (tgt := 26) dX8_count_19 (by decide) (fun c6 => ?_) (fun c6 => ?_)
      · rw [if_neg c6] at hf
        refine sp_iload_n (pc := 26) dX8_count_26 2 rfl ?_
        refine sp_iload_n (pc := 27) dX8_count_27 1 rfl ?_
        refine sp_icmp_ge (pc := 28) (tgt := 35) dX8_count_28 (by decide) (fun c7 => ?_) (fun c7 => ?_)
        · rw [if_pos c7] at hf
          refine sp_iconst (pc := 35) (v := 0) dX8_count_35 (by decide) ?_
          exact (w_X8_count_36 hQ hf)
        · rw [if_neg c7] at hf
          refine sp_iconst (pc := 31) (v := 2) dX8_count_31 (by decide) ?_
          refine sp_goto (pc := 32) (tgt := 36) dX8_count_32 (by decide) ?_
          exact (w_X8_count_36 hQ hf)
      · rw [if_pos c6] at hf
        refine sp_iconst (pc := 22) (v := 1) dX8_count_22 (by decide) ?_
        refine sp_goto (pc := 23) (tgt := 36) dX8_count_23 (by decide) ?_
        exact (w_X8_count_36 hQ hf)

theorem o_X8_count {h : HP} {v0 : Nat} {v1 : Int32} {v2 : Int32} {v3 : Int32} {res : Int32 × HP} (hf : f_X8_count h v0 v1 v2 v3 = some res) : ∃ fs, h v0 = some (.inr (8, fs)) := by
  obtain ⟨u, eu, -⟩ := ob hf
  exact kO_spec eu

theorem m_X8_count {l : Launch} {Q : PST} {h : HP} {v0 : Nat} {v1 : Int32} {v2 : Int32} {v3 : Int32} {sz : Nat} {res : Int32 × HP} (hQ : ∀ sz', Q (.inl (some (.int res.1))) res.2 sz') (hf : f_X8_count h v0 v1 v2 v3 = some res) : MM l M_X8_count [.ref v0, .int v1, .int v2, .int v3] h sz Q := by
  obtain ⟨u, eu, hf⟩ := ob hf
  exact MM_of wok_X8_count (by decide +kernel) (Nat.le_of_ble_eq_true rfl) ((w_X8_count_0 hQ hf))

theorem dX8_hidden_0 : decode (mB M_X8_hidden) 0 = .ok (.aload_n 0, 1) := by decide +kernel
theorem dX8_hidden_1 : decode (mB M_X8_hidden) 1 = .ok (.iconst 0, 1) := by decide +kernel
theorem dX8_hidden_2 : decode (mB M_X8_hidden) 2 = .ok (.putfield 35, 3) := by decide +kernel
theorem dX8_hidden_5 : decode (mB M_X8_hidden) 5 = .ok (.iconst 0, 1) := by decide +kernel
theorem dX8_hidden_6 : decode (mB M_X8_hidden) 6 = .ok (.istore_n 1, 1) := by decide +kernel
theorem dX8_hidden_7 : decode (mB M_X8_hidden) 7 = .ok (.iconst 0, 1) := by decide +kernel
theorem dX8_hidden_8 : decode (mB M_X8_hidden) 8 = .ok (.istore_n 2, 1) := by decide +kernel
theorem dX8_hidden_9 : decode (mB M_X8_hidden) 9 = .ok (.iload_n 2, 1) := by decide +kernel
theorem dX8_hidden_10 : decode (mB M_X8_hidden) 10 = .ok (.aload_n 0, 1) := by decide +kernel
theorem dX8_hidden_11 : decode (mB M_X8_hidden) 11 = .ok (.invokevirtual 54, 3) := by decide +kernel
theorem dX8_hidden_14 : decode (mB M_X8_hidden) 14 = .ok (.if_icmp .ge 82, 3) := by decide +kernel
theorem dX8_hidden_17 : decode (mB M_X8_hidden) 17 = .ok (.aload_n 0, 1) := by decide +kernel
theorem dX8_hidden_18 : decode (mB M_X8_hidden) 18 = .ok (.iload_n 2, 1) := by decide +kernel
theorem dX8_hidden_19 : decode (mB M_X8_hidden) 19 = .ok (.invokevirtual 68, 3) := by decide +kernel
theorem dX8_hidden_22 : decode (mB M_X8_hidden) 22 = .ok (.istore_n 3, 1) := by decide +kernel
theorem dX8_hidden_23 : decode (mB M_X8_hidden) 23 = .ok (.iconst (-1), 1) := by decide +kernel
theorem dX8_hidden_24 : decode (mB M_X8_hidden) 24 = .ok (.istore 4, 2) := by decide +kernel
theorem dX8_hidden_26 : decode (mB M_X8_hidden) 26 = .ok (.iload 4, 2) := by decide +kernel
theorem dX8_hidden_28 : decode (mB M_X8_hidden) 28 = .ok (.aload_n 0, 1) := by decide +kernel
theorem dX8_hidden_29 : decode (mB M_X8_hidden) 29 = .ok (.getfield 7, 3) := by decide +kernel
theorem dX8_hidden_32 : decode (mB M_X8_hidden) 32 = .ok (.bipush 7, 2) := by decide +kernel
theorem dX8_hidden_34 : decode (mB M_X8_hidden) 34 = .ok (.iaload, 1) := by decide +kernel
theorem dX8_hidden_35 : decode (mB M_X8_hidden) 35 = .ok (.if_icmp .ge 43, 3) := by decide +kernel
theorem dX8_hidden_38 : decode (mB M_X8_hidden) 38 = .ok (.iload_n 3, 1) := by decide +kernel
theorem dX8_hidden_39 : decode (mB M_X8_hidden) 39 = .ok (.ifCond .eq 31, 3) := by decide +kernel
theorem dX8_hidden_42 : decode (mB M_X8_hidden) 42 = .ok (.aload_n 0, 1) := by decide +kernel
theorem dX8_hidden_43 : decode (mB M_X8_hidden) 43 = .ok (.aload_n 0, 1) := by decide +kernel
theorem dX8_hidden_44 : decode (mB M_X8_hidden) 44 = .ok (.getfield 7, 3) := by decide +kernel
theorem dX8_hidden_47 : decode (mB M_X8_hidden) 47 = .ok (.iload_n 2, 1) := by decide +kernel
theorem dX8_hidden_48 : decode (mB M_X8_hidden) 48 = .ok (.iconst 1, 1) := by decide +kernel
theorem dX8_hidden_49 : decode (mB M_X8_hidden) 49 = .ok (.invokestatic 50, 3) := by decide +kernel
theorem dX8_hidden_52 : decode (mB M_X8_hidden) 52 = .ok (.iaload, 1) := by decide +kernel
theorem dX8_hidden_53 : decode (mB M_X8_hidden) 53 = .ok (.aload_n 0, 1) := by decide +kernel
theorem dX8_hidden_54 : decode (mB M_X8_hidden) 54 = .ok (.iload 4, 2) := by decide +kernel
theorem dX8_hidden_56 : decode (mB M_X8_hidden) 56 = .ok (.invokevirtual 62, 3) := by decide +kernel
theorem dX8_hidden_59 : decode (mB M_X8_hidden) 59 = .ok (.invokevirtual 65, 3) := by decide +kernel
theorem dX8_hidden_62 : decode (mB M_X8_hidden) 62 = .ok (.iload_n 2, 1) := by decide +kernel
theorem dX8_hidden_63 : decode (mB M_X8_hidden) 63 = .ok (.if_icmp .eq 7, 3) := by decide +kernel
theorem dX8_hidden_66 : decode (mB M_X8_hidden) 66 = .ok (.iconst 1, 1) := by decide +kernel
theorem dX8_hidden_67 : decode (mB M_X8_hidden) 67 = .ok (.goto 4, 3) := by decide +kernel
theorem dX8_hidden_70 : decode (mB M_X8_hidden) 70 = .ok (.iconst 0, 1) := by decide +kernel
theorem dX8_hidden_71 : decode (mB M_X8_hidden) 71 = .ok (.istore_n 3, 1) := by decide +kernel
theorem dX8_hidden_72 : decode (mB M_X8_hidden) 72 = .ok (.iinc 4 1, 3) := by decide +kernel
theorem dX8_hidden_75 : decode (mB M_X8_hidden) 75 = .ok (.goto (-49), 3) := by decide +kernel
theorem dX8_hidden_78 : decode (mB M_X8_hidden) 78 = .ok (.iload_n 1, 1) := by decide +kernel
theorem dX8_hidden_79 : decode (mB M_X8_hidden) 79 = .ok (.iload_n 3, 1) := by decide +kernel
theorem dX8_hidden_80 : decode (mB M_X8_hidden) 80 = .ok (.ifCond .eq 7, 3) := by decide +kernel
theorem dX8_hidden_83 : decode (mB M_X8_hidden) 83 = .ok (.iconst 1, 1) := by decide +kernel
theorem dX8_hidden_84 : decode (mB M_X8_hidden) 84 = .ok (.goto 4, 3) := by decide +kernel
theorem dX8_hidden_87 : decode (mB M_X8_hidden) 87 = .ok (.iconst 0, 1) := by decide +kernel
theorem dX8_hidden_88 : decode (mB M_X8_hidden) 88 = .ok (.iadd, 1) := by decide +kernel
theorem dX8_hidden_89 : decode (mB M_X8_hidden) 89 = .ok (.istore_n 1, 1) := by decide +kernel
theorem dX8_hidden_90 : decode (mB M_X8_hidden) 90 = .ok (.iinc 2 1, 3) := by decide +kernel
theorem dX8_hidden_93 : decode (mB M_X8_hidden) 93 = .ok (.goto (-84), 3) := by decide +kernel
theorem dX8_hidden_96 : decode (mB M_X8_hidden) 96 = .ok (.iload_n 1, 1) := by decide +kernel
theorem dX8_hidden_97 : decode (mB M_X8_hidden) 97 = .ok (.ireturn, 1) := by decide +kernel
def c_X8_hidden_26 (v0 : Nat) (k9 : HP → Int32 → Int32 → Option (Int32 × HP)) (k26 : HP → Int32 → Int32 → Int32 → Int32 → Option (Int32 × HP)) (h : HP) (v1 : Int32) (v2 : Int32) (v3 : Int32) (v4 : Int32) : Option (Int32 × HP) :=
  (gR 8 1 h v0).bind fun x1 => (aI h x1 7).bind fun x2 => if x2 ≤ v4 then if v3 = 0 then k9 h (v1 + 0) (v2 + 1) else k9 h (v1 + 1) (v2 + 1) else if v3 = 0 then k26 h v1 v2 0 (v4 + 1) else (gR 8 1 h v0).bind fun x6 => (f_X8_of h v2 1).bind fun y7 => (aI h x6 y7).bind fun x8 => (f_X8_upTo h v0 v4).bind fun y9 => (f_X8_newest h v0 x8 y9).bind fun y10 => if y10 = v2 then k26 h v1 v2 0 (v4 + 1) else k26 h v1 v2 1 (v4 + 1)
def b_X8_hidden_26 (v0 : Nat) (k9 : HP → Int32 → Int32 → Option (Int32 × HP)) : Nat → HP → Int32 → Int32 → Int32 → Int32 → Option (Int32 × HP)
  | 0, _, _, _, _, _ => none
  | n + 1, h, v1, v2, v3, v4 => c_X8_hidden_26 v0 k9 (b_X8_hidden_26 v0 k9 n) h v1 v2 v3 v4
def c_X8_hidden_9 (v0 : Nat) (k9 : HP → Int32 → Int32 → Option (Int32 × HP)) (h : HP) (v1 : Int32) (v2 : Int32) : Option (Int32 × HP) :=
  (f_X8_all h v0).bind fun y1 => if y1 ≤ v2 then some (v1, h) else (f_X8_isEntry h v0 v2).bind fun y3 => b_X8_hidden_26 v0 k9 FU h v1 v2 y3 ((-1))
def b_X8_hidden_9 (v0 : Nat) : Nat → HP → Int32 → Int32 → Option (Int32 × HP)
  | 0, _, _, _ => none
  | n + 1, h, v1, v2 => c_X8_hidden_9 v0 (b_X8_hidden_9 v0 n) h v1 v2
def b_X8_hidden_0 (v0 : Nat) (h : HP) : Option (Int32 × HP) :=
  (pI 8 0 h v0 0).bind fun h1 => b_X8_hidden_9 v0 FU h1 0 0
def f_X8_hidden (h : HP) (v0 : Nat) : Option (Int32 × HP) := (kO 8 h v0).bind fun _ => b_X8_hidden_0 v0 h
theorem wc_X8_hidden_26 {l : Launch} {X : SCR} {Q : PST} {bc bs : Nat} {res : Int32 × HP} (hQ : ∀ sz', Q (.inl (some (.int res.1))) res.2 sz') {v0 : Nat} {k9 : HP → Int32 → Int32 → Option (Int32 × HP)} (hk9 : ∀ (h : HP) (v1 : Int32) (v2 : Int32) (sz : Nat), k9 h v1 v2 = some res → SP l X M_X8_hidden 9 [(0, .ref v0), (1, .int v1), (2, .int v2)] [] h sz bc bs Q) {k26 : HP → Int32 → Int32 → Int32 → Int32 → Option (Int32 × HP)} (hk26 : ∀ (h : HP) (v1 : Int32) (v2 : Int32) (v3 : Int32) (v4 : Int32) (sz : Nat), k26 h v1 v2 v3 v4 = some res → SP l X M_X8_hidden 26 [(0, .ref v0), (1, .int v1), (2, .int v2), (3, .int v3), (4, .int v4)] [] h sz bc bs Q) {h : HP} {v1 : Int32} {v2 : Int32} {v3 : Int32} {v4 : Int32} {sz : Nat} (hf : c_X8_hidden_26 v0 k9 k26 h v1 v2 v3 v4 = some res) : SP l X M_X8_hidden 26 [(0, .ref v0), (1, .int v1), (2, .int v2), (3, .int v3), (4, .int v4)] [] h sz bc bs Q := by
  rw [c_X8_hidden_26] at hf
  refine sp_iload (pc := 26) dX8_hidden_26 4 rfl ?_
  refine sp_aload_n (pc := 28) dX8_hidden_28 0 rfl ?_
  obtain ⟨x1, ex1, hf⟩ := ob hf
  refine sp_gR (pc := 29) fl_RX8_7 dX8_hidden_29 ex1 ?_
  refine sp_bipush (pc := 32) (v := 7) dX8_hidden_32 (by decide) ?_
  obtain ⟨x2, ex2, hf⟩ := ob hf
  refine sp_aI (pc := 34) dX8_hidden_34 ex2 ?_
  refine sp_icmp_ge (pc := 35) (tgt := 78) dX8_hidden_35 (by decide) (fun c3 => ?_) (fun c3 => ?_)
  · rw [if_pos c3] at hf
    refine sp_iload_n (pc := 78) dX8_hidden_78 1 rfl ?_
    refine sp_iload_n (pc := 79) dX8_hidden_79 3 rfl ?_
    refine sp_if_eq (pc := 80) (tgt := 87) dX8_hidden_80 (by decide) (fun c4 => ?_) (fun c4 => ?_)
    · rw [if_pos c4] at hf
      refine sp_iconst (pc := 87) (v := 0) dX8_hidden_87 (by decide) ?_
      refine sp_iadd (pc := 88) dX8_hidden_88 ?_
      refine sp_istore_n (pc := 89) (lv' := [(1, .int (v1 + 0)), (0, .ref v0), (2, .int v2), (3, .int v3), (4, .int v4)]) dX8_hidden_89 (by decide) rfl ?_
      refine sp_iinc (pc := 90) (v := v2 + 1) (lv' := [(2, .int (v2 + 1)), (1, .int (v1 + 0)), (0, .ref v0), (3, .int v3), (4, .int v4)]) dX8_hidden_90 2 rfl rfl (by decide) rfl ?_
      refine sp_goto (pc := 93) (tgt := 9) dX8_hidden_93 (by decide) ?_
      exact sp_sub [2, 1, 0] rfl (hk9 _ _ _ _ hf)
    · rw [if_neg c4] at hf
      refine sp_iconst (pc := 83) (v := 1) dX8_hidden_83 (by decide) ?_
      refine sp_goto (pc := 84) (tgt := 88) dX8_hidden_84 (by decide) ?_
      refine sp_iadd (pc := 88) dX8_hidden_88 ?_
      refine sp_istore_n (pc := 89) (lv' := [(1, .int (v1 + 1)), (0, .ref v0), (2, .int v2), (3, .int v3), (4, .int v4)]) dX8_hidden_89 (by decide) rfl ?_
      refine sp_iinc (pc := 90) (v := v2 + 1) (lv' := [(2, .int (v2 + 1)), (1, .int (v1 + 1)), (0, .ref v0), (3, .int v3), (4, .int v4)]) dX8_hidden_90 2 rfl rfl (by decide) rfl ?_
      refine sp_goto (pc := 93) (tgt := 9) dX8_hidden_93 (by decide) ?_
      exact sp_sub [2, 1, 0] rfl (hk9 _ _ _ _ hf)
  · rw [if_neg c3] at hf
    refine sp_iload_n (pc := 38) dX8_hidden_38 3 rfl ?_
    refine sp_if_eq (pc := 39) (tgt := 70) dX8_hidden_39 (by decide) (fun c5 => ?_) (fun c5 => ?_)
    · rw [if_pos c5] at hf
      refine sp_iconst (pc := 70) (v := 0) dX8_hidden_70 (by decide) ?_
      refine sp_istore_n (pc := 71) (lv' := [(3, .int 0), (0, .ref v0), (1, .int v1), (2, .int v2), (4, .int v4)]) dX8_hidden_71 (by decide) rfl ?_
      refine sp_iinc (pc := 72) (v := v4 + 1) (lv' := [(4, .int (v4 + 1)), (3, .int 0), (0, .ref v0), (1, .int v1), (2, .int v2)]) dX8_hidden_72 4 rfl rfl (by decide) rfl ?_
      refine sp_goto (pc := 75) (tgt := 26) dX8_hidden_75 (by decide) ?_
      exact sp_sub [2, 3, 4, 1, 0] rfl (hk26 _ _ _ _ _ _ hf)
    · rw [if_neg c5] at hf
      refine sp_aload_n (pc := 42) dX8_hidden_42 0 rfl ?_
      refine sp_aload_n (pc := 43) dX8_hidden_43 0 rfl ?_
      obtain ⟨x6, ex6, hf⟩ := ob hf
      refine sp_gR (pc := 44) fl_RX8_7 dX8_hidden_44 ex6 ?_
      refine sp_iload_n (pc := 47) dX8_hidden_47 2 rfl ?_
      refine sp_iconst (pc := 48) (v := 1) dX8_hidden_48 (by decide) ?_
      obtain ⟨y7, ey7, hf⟩ := ob hf
      refine sp_callSi (pc := 49) (z := M_X8_of) (As := [.int v2, .int 1]) (bc2 := bc) (bs2 := bs) (m_X8_of (Q := _) (fun sz => ⟨y7, rfl, ?_⟩) ey7) rfl dX8_hidden_49 rfl ck_X8_hidden_50 (Nat.le_of_ble_eq_true rfl) rfl rfl rfl
      obtain ⟨x8, ex8, hf⟩ := ob hf
      refine sp_aI (pc := 52) dX8_hidden_52 ex8 ?_
      refine sp_aload_n (pc := 53) dX8_hidden_53 0 rfl ?_
      refine sp_iload (pc := 54) dX8_hidden_54 4 rfl ?_
      obtain ⟨y9, ey9, hf⟩ := ob hf
      obtain ⟨fsy9, hoy9⟩ := o_X8_upTo ey9
      refine sp_callVi (pc := 56) (z := M_X8_upTo) (As := [.int v4]) (b := v0) (bc2 := bc) (bs2 := bs) (m_X8_upTo (Q := _) (fun sz => ⟨y9, rfl, ?_⟩) ey9) rfl dX8_hidden_56 hoy9 rfl rfl ck_X8_hidden_62 (Nat.le_of_ble_eq_true rfl) rfl rfl rfl
      obtain ⟨y10, ey10, hf⟩ := ob hf
      obtain ⟨fsy10, hoy10⟩ := o_X8_newest ey10
      refine sp_callVi (pc := 59) (z := M_X8_newest) (As := [.int x8, .int y9]) (b := v0) (bc2 := bc) (bs2 := bs) (m_X8_newest (Q := _) (fun sz => ⟨y10, rfl, ?_⟩) ey10) rfl dX8_hidden_59 hoy10 rfl rfl ck_X8_hidden_65 (Nat.le_of_ble_eq_true rfl) rfl rfl rfl
      refine sp_iload_n (pc := 62) dX8_hidden_62 2 rfl ?_
      refine sp_icmp_eq (pc := 63) (tgt := 70) dX8_hidden_63 (by decide) (fun c11 => ?_) (fun c11 => ?_)
      · rw [if_pos c11] at hf
        refine sp_iconst (pc := 70) (v := 0) dX8_hidden_70 (by decide) ?_
        refine sp_istore_n (pc := 71) (lv' := [(3, .int 0), (0, .ref v0), (1, .int v1), (2, .int v2), (4, .int v4)]) dX8_hidden_71 (by decide) rfl ?_
        refine sp_iinc (pc := 72) (v := v4 + 1) (lv' := [(4, .int (v4 + 1)), (3, .int 0), (0, .ref v0), (1, .int v1), (2, .int v2)]) dX8_hidden_72 4 rfl rfl (by decide) rfl ?_
        refine sp_goto (pc := 75) (tgt := 26) dX8_hidden_75 (by decide) ?_
        exact sp_sub [2, 3, 4, 1, 0] rfl (hk26 _ _ _ _ _ _ hf)
      · rw [if_neg c11] at hf
        refine sp_iconst (pc := 66) (v := 1) dX8_hidden_66 (by decide) ?_
        refine sp_goto (pc := 67) (tgt := 71) dX8_hidden_67 (by decide) ?_
        refine sp_istore_n (pc := 71) (lv' := [(3, .int 1), (0, .ref v0), (1, .int v1), (2, .int v2), (4, .int v4)]) dX8_hidden_71 (by decide) rfl ?_
        refine sp_iinc (pc := 72) (v := v4 + 1) (lv' := [(4, .int (v4 + 1)), (3, .int 1), (0, .ref v0), (1, .int v1), (2, .int v2)]) dX8_hidden_72 4 rfl rfl (by decide) rfl ?_
        refine sp_goto (pc := 75) (tgt := 26) dX8_hidden_75 (by decide) ?_
        exact sp_sub [2, 3, 4, 1, 0] rfl (hk26 _ _ _ _ _ _ hf)

theorem w_X8_hidden_26 {l : Launch} {X : SCR} {Q : PST} {bc bs : Nat} {res : Int32 × HP} (hQ : ∀ sz', Q (.inl (some (.int res.1))) res.2 sz') {v0 : Nat} {k9 : HP → Int32 → Int32 → Option (Int32 × HP)} (hk9 : ∀ (h : HP) (v1 : Int32) (v2 : Int32) (sz : Nat), k9 h v1 v2 = some res → SP l X M_X8_hidden 9 [(0, .ref v0), (1, .int v1), (2, .int v2)] [] h sz bc bs Q) : ∀ (n : Nat) {h : HP} {v1 : Int32} {v2 : Int32} {v3 : Int32} {v4 : Int32} {sz : Nat}, b_X8_hidden_26 v0 k9 n h v1 v2 v3 v4 = some res → SP l X M_X8_hidden 26 [(0, .ref v0), (1, .int v1), (2, .int v2), (3, .int v3), (4, .int v4)] [] h sz bc bs Q := by
  intro n
  induction n with
  | zero =>
    intro h v1 v2 v3 v4 sz hf
    rw [b_X8_hidden_26] at hf
    cases hf
  | succ n ih =>
    intro h v1 v2 v3 v4 sz hf
    rw [b_X8_hidden_26] at hf
    exact wc_X8_hidden_26 hQ hk9 (fun h v1 v2 v3 v4 sz hf => ih hf) hf

theorem wc_X8_hidden_9 {l : Launch} {X : SCR} {Q : PST} {bc bs : Nat} {res : Int32 × HP} (hQ : ∀ sz', Q (.inl (some (.int res.1))) res.2 sz') {v0 : Nat} {k9 : HP → Int32 → Int32 → Option (Int32 × HP)} (hk9 : ∀ (h : HP) (v1 : Int32) (v2 : Int32) (sz : Nat), k9 h v1 v2 = some res → SP l X M_X8_hidden 9 [(0, .ref v0), (1, .int v1), (2, .int v2)] [] h sz bc bs Q) {h : HP} {v1 : Int32} {v2 : Int32} {sz : Nat} (hf : c_X8_hidden_9 v0 k9 h v1 v2 = some res) : SP l X M_X8_hidden 9 [(0, .ref v0), (1, .int v1), (2, .int v2)] [] h sz bc bs Q := by
  rw [c_X8_hidden_9] at hf
  refine sp_iload_n (pc := 9) dX8_hidden_9 2 rfl ?_
  refine sp_aload_n (pc := 10) dX8_hidden_10 0 rfl ?_
  obtain ⟨y1, ey1, hf⟩ := ob hf
  obtain ⟨fsy1, hoy1⟩ := o_X8_all ey1
  refine sp_callVi (pc := 11) (z := M_X8_all) (As := []) (b := v0) (bc2 := bc) (bs2 := bs) (m_X8_all (Q := _) (fun sz => ⟨y1, rfl, ?_⟩) ey1) rfl dX8_hidden_11 hoy1 rfl rfl ck_X8_hidden_54 (Nat.le_of_ble_eq_true rfl) rfl rfl rfl
  refine sp_icmp_ge (pc := 14) (tgt := 96) dX8_hidden_14 (by decide) (fun c2 => ?_) (fun c2 => ?_)
  · rw [if_pos c2] at hf
    refine sp_iload_n (pc := 96) dX8_hidden_96 1 rfl ?_
    obtain rfl := Option.some.inj hf
    exact sp_ireturn (pc := 97) dX8_hidden_97 rfl rfl (hQ _)
  · rw [if_neg c2] at hf
    refine sp_aload_n (pc := 17) dX8_hidden_17 0 rfl ?_
    refine sp_iload_n (pc := 18) dX8_hidden_18 2 rfl ?_
    obtain ⟨y3, ey3, hf⟩ := ob hf
    obtain ⟨fsy3, hoy3⟩ := o_X8_isEntry ey3
    refine sp_callVi (pc := 19) (z := M_X8_isEntry) (As := [.int v2]) (b := v0) (bc2 := bc) (bs2 := bs) (m_X8_isEntry (Q := _) (fun sz => ⟨y3, rfl, ?_⟩) ey3) rfl dX8_hidden_19 hoy3 rfl rfl ck_X8_hidden_68 (Nat.le_of_ble_eq_true rfl) rfl rfl rfl
    refine sp_istore_n (pc := 22) (lv' := [(3, .int y3), (0, .ref v0), (1, .int v1), (2, .int v2)]) dX8_hidden_22 (by decide) rfl ?_
    refine sp_iconst (pc := 23) (v := (-1)) dX8_hidden_23 (by decide) ?_
    refine sp_istore (pc := 24) (lv' := [(4, .int (-1)), (3, .int y3), (0, .ref v0), (1, .int v1), (2, .int v2)]) dX8_hidden_24 (by decide) rfl ?_
    exact sp_sub [2, 3, 4, 1, 0] rfl (w_X8_hidden_26 hQ hk9 FU hf)

theorem w_X8_hidden_9 {l : Launch} {X : SCR} {Q : PST} {bc bs : Nat} {res : Int32 × HP} (hQ : ∀ sz', Q (.inl (some (.int res.1))) res.2 sz') {v0 : Nat} : ∀ (n : Nat) {h : HP} {v1 : Int32} {v2 : Int32} {sz : Nat}, b_X8_hidden_9 v0 n h v1 v2 = some res → SP l X M_X8_hidden 9 [(0, .ref v0), (1, .int v1), (2, .int v2)] [] h sz bc bs Q := by
  intro n
  induction n with
  | zero =>
    intro h v1 v2 sz hf
    rw [b_X8_hidden_9] at hf
    cases hf
  | succ n ih =>
    intro h v1 v2 sz hf
    rw [b_X8_hidden_9] at hf
    exact wc_X8_hidden_9 hQ (fun h v1 v2 sz hf => ih hf) hf

theorem w_X8_hidden_0 {l : Launch} {X : SCR} {Q : PST} {bc bs : Nat} {res : Int32 × HP} {h : HP} (hQ : ∀ sz', Q (.inl (some (.int res.1))) res.2 sz') {v0 : Nat} {sz : Nat} (hf : b_X8_hidden_0 v0 h  = some res) : SP l X M_X8_hidden 0 [(0, .ref v0)] [] h sz bc bs Q := by
  rw [b_X8_hidden_0] at hf
  refine sp_aload_n (pc := 0) dX8_hidden_0 0 rfl ?_
  refine sp_iconst (pc := 1) (v := 0) dX8_hidden_1 (by decide) ?_
  obtain ⟨h1, eh1, hf⟩ := ob hf
  refine sp_pI (pc := 2) pf_RX8_35 dX8_hidden_2 eh1 (fun sz => ?_)
  refine sp_iconst (pc := 5) (v := 0) dX8_hidden_5 (by decide) ?_
  refine sp_istore_n (pc := 6) (lv' := [(1, .int 0), (0, .ref v0)]) dX8_hidden_6 (by decide) rfl ?_
  refine sp_iconst (pc := 7) (v := 0) dX8_hidden_7 (by decide) ?_
  refine sp_istore_n (pc := 8) (lv' := [(2, .int 0), (1, .int 0), (0, .ref v0)]) dX8_hidden_8 (by decide) rfl ?_
  exact sp_sub [2, 1, 0] rfl (w_X8_hidden_9 hQ FU hf)

theorem o_X8_hidden {h : HP} {v0 : Nat} {res : Int32 × HP} (hf : f_X8_hidden h v0 = some res) : ∃ fs, h v0 = some (.inr (8, fs)) := by
  obtain ⟨u, eu, -⟩ := ob hf
  exact kO_spec eu

theorem m_X8_hidden {l : Launch} {Q : PST} {h : HP} {v0 : Nat} {sz : Nat} {res : Int32 × HP} (hQ : ∀ sz', Q (.inl (some (.int res.1))) res.2 sz') (hf : f_X8_hidden h v0 = some res) : MM l M_X8_hidden [.ref v0] h sz Q := by
  obtain ⟨u, eu, hf⟩ := ob hf
  exact MM_of wok_X8_hidden (by decide +kernel) (Nat.le_of_ble_eq_true rfl) ((w_X8_hidden_0 hQ hf))

theorem dX8_newestGrave_0 : decode (mB M_X8_newestGrave) 0 = .ok (.iconst (-1), 1) := by decide +kernel
theorem dX8_newestGrave_1 : decode (mB M_X8_newestGrave) 1 = .ok (.istore_n 2, 1) := by decide +kernel
theorem dX8_newestGrave_2 : decode (mB M_X8_newestGrave) 2 = .ok (.iconst 0, 1) := by decide +kernel
theorem dX8_newestGrave_3 : decode (mB M_X8_newestGrave) 3 = .ok (.istore_n 3, 1) := by decide +kernel
theorem dX8_newestGrave_4 : decode (mB M_X8_newestGrave) 4 = .ok (.iload_n 3, 1) := by decide +kernel
theorem dX8_newestGrave_5 : decode (mB M_X8_newestGrave) 5 = .ok (.aload_n 0, 1) := by decide +kernel
theorem dX8_newestGrave_6 : decode (mB M_X8_newestGrave) 6 = .ok (.invokevirtual 54, 3) := by decide +kernel
theorem dX8_newestGrave_9 : decode (mB M_X8_newestGrave) 9 = .ok (.if_icmp .ge 55, 3) := by decide +kernel
theorem dX8_newestGrave_12 : decode (mB M_X8_newestGrave) 12 = .ok (.aload_n 0, 1) := by decide +kernel
theorem dX8_newestGrave_13 : decode (mB M_X8_newestGrave) 13 = .ok (.iload_n 3, 1) := by decide +kernel
theorem dX8_newestGrave_14 : decode (mB M_X8_newestGrave) 14 = .ok (.invokevirtual 68, 3) := by decide +kernel
theorem dX8_newestGrave_17 : decode (mB M_X8_newestGrave) 17 = .ok (.ifCond .ne 39, 3) := by decide +kernel
theorem dX8_newestGrave_20 : decode (mB M_X8_newestGrave) 20 = .ok (.aload_n 0, 1) := by decide +kernel
theorem dX8_newestGrave_21 : decode (mB M_X8_newestGrave) 21 = .ok (.iload_n 3, 1) := by decide +kernel
theorem dX8_newestGrave_22 : decode (mB M_X8_newestGrave) 22 = .ok (.iload_n 1, 1) := by decide +kernel
theorem dX8_newestGrave_23 : decode (mB M_X8_newestGrave) 23 = .ok (.invokevirtual 58, 3) := by decide +kernel
theorem dX8_newestGrave_26 : decode (mB M_X8_newestGrave) 26 = .ok (.ifCond .eq 30, 3) := by decide +kernel
theorem dX8_newestGrave_29 : decode (mB M_X8_newestGrave) 29 = .ok (.aload_n 0, 1) := by decide +kernel
theorem dX8_newestGrave_30 : decode (mB M_X8_newestGrave) 30 = .ok (.getfield 7, 3) := by decide +kernel
theorem dX8_newestGrave_33 : decode (mB M_X8_newestGrave) 33 = .ok (.iload_n 3, 1) := by decide +kernel
theorem dX8_newestGrave_34 : decode (mB M_X8_newestGrave) 34 = .ok (.iconst 0, 1) := by decide +kernel
theorem dX8_newestGrave_35 : decode (mB M_X8_newestGrave) 35 = .ok (.invokestatic 50, 3) := by decide +kernel
theorem dX8_newestGrave_38 : decode (mB M_X8_newestGrave) 38 = .ok (.iaload, 1) := by decide +kernel
theorem dX8_newestGrave_39 : decode (mB M_X8_newestGrave) 39 = .ok (.iload_n 2, 1) := by decide +kernel
theorem dX8_newestGrave_40 : decode (mB M_X8_newestGrave) 40 = .ok (.if_icmp .le 16, 3) := by decide +kernel
theorem dX8_newestGrave_43 : decode (mB M_X8_newestGrave) 43 = .ok (.aload_n 0, 1) := by decide +kernel
theorem dX8_newestGrave_44 : decode (mB M_X8_newestGrave) 44 = .ok (.getfield 7, 3) := by decide +kernel
theorem dX8_newestGrave_47 : decode (mB M_X8_newestGrave) 47 = .ok (.iload_n 3, 1) := by decide +kernel
theorem dX8_newestGrave_48 : decode (mB M_X8_newestGrave) 48 = .ok (.iconst 0, 1) := by decide +kernel
theorem dX8_newestGrave_49 : decode (mB M_X8_newestGrave) 49 = .ok (.invokestatic 50, 3) := by decide +kernel
theorem dX8_newestGrave_52 : decode (mB M_X8_newestGrave) 52 = .ok (.iaload, 1) := by decide +kernel
theorem dX8_newestGrave_53 : decode (mB M_X8_newestGrave) 53 = .ok (.goto 4, 3) := by decide +kernel
theorem dX8_newestGrave_56 : decode (mB M_X8_newestGrave) 56 = .ok (.iload_n 2, 1) := by decide +kernel
theorem dX8_newestGrave_57 : decode (mB M_X8_newestGrave) 57 = .ok (.istore_n 2, 1) := by decide +kernel
theorem dX8_newestGrave_58 : decode (mB M_X8_newestGrave) 58 = .ok (.iinc 3 1, 3) := by decide +kernel
theorem dX8_newestGrave_61 : decode (mB M_X8_newestGrave) 61 = .ok (.goto (-57), 3) := by decide +kernel
theorem dX8_newestGrave_64 : decode (mB M_X8_newestGrave) 64 = .ok (.iload_n 2, 1) := by decide +kernel
theorem dX8_newestGrave_65 : decode (mB M_X8_newestGrave) 65 = .ok (.ireturn, 1) := by decide +kernel
def c_X8_newestGrave_4 (h : HP) (v0 : Nat) (v1 : Int32) (k4 : Int32 → Int32 → Option (Int32)) (v2 : Int32) (v3 : Int32) : Option (Int32) :=
  (f_X8_all h v0).bind fun y1 => if y1 ≤ v3 then some (v2) else (f_X8_isEntry h v0 v3).bind fun y3 => if y3 = 0 then (f_X8_concerns h v0 v3 v1).bind fun y5 => if y5 = 0 then k4 v2 (v3 + 1) else (gR 8 1 h v0).bind fun x7 => (f_X8_of h v3 0).bind fun y8 => (aI h x7 y8).bind fun x9 => if x9 ≤ v2 then k4 v2 (v3 + 1) else (gR 8 1 h v0).bind fun x11 => (f_X8_of h v3 0).bind fun y12 => (aI h x11 y12).bind fun x13 => k4 x13 (v3 + 1) else k4 v2 (v3 + 1)
def b_X8_newestGrave_4 (h : HP) (v0 : Nat) (v1 : Int32) : Nat → Int32 → Int32 → Option (Int32)
  | 0, _, _ => none
  | n + 1, v2, v3 => c_X8_newestGrave_4 h v0 v1 (b_X8_newestGrave_4 h v0 v1 n) v2 v3
def b_X8_newestGrave_0 (h : HP) (v0 : Nat) (v1 : Int32) : Option (Int32) :=
  b_X8_newestGrave_4 h v0 v1 FU ((-1)) 0
def f_X8_newestGrave (h : HP) (v0 : Nat) (v1 : Int32) : Option (Int32) := (kO 8 h v0).bind fun _ => b_X8_newestGrave_0 h v0 v1
theorem wc_X8_newestGrave_4 {l : Launch} {X : SCR} {Q : PST} {bc bs : Nat} {res : Int32} {h : HP} (hQ : ∀ sz', Q (.inl (some (.int res))) h sz') {v0 : Nat} {v1 : Int32} {k4 : Int32 → Int32 → Option (Int32)} (hk4 : ∀ (v2 : Int32) (v3 : Int32) (sz : Nat), k4 v2 v3 = some res → SP l X M_X8_newestGrave 4 [(0, .ref v0), (1, .int v1), (2, .int v2), (3, .int v3)] [] h sz bc bs Q) {v2 : Int32} {v3 : Int32} {sz : Nat} (hf : c_X8_newestGrave_4 h v0 v1 k4 v2 v3 = some res) : SP l X M_X8_newestGrave 4 [(0, .ref v0), (1, .int v1), (2, .int v2), (3, .int v3)] [] h sz bc bs Q := by
  rw [c_X8_newestGrave_4] at hf
  refine sp_iload_n (pc := 4) dX8_newestGrave_4 3 rfl ?_
  refine sp_aload_n (pc := 5) dX8_newestGrave_5 0 rfl ?_
  obtain ⟨y1, ey1, hf⟩ := ob hf
  obtain ⟨fsy1, hoy1⟩ := o_X8_all ey1
  refine sp_callVi (pc := 6) (z := M_X8_all) (As := []) (b := v0) (bc2 := bc) (bs2 := bs) (m_X8_all (Q := _) (fun sz => ⟨y1, rfl, ?_⟩) ey1) rfl dX8_newestGrave_6 hoy1 rfl rfl ck_X8_newestGrave_54 (Nat.le_of_ble_eq_true rfl) rfl rfl rfl
  refine sp_icmp_ge (pc := 9) (tgt := 64) dX8_newestGrave_9 (by decide) (fun c2 => ?_) (fun c2 => ?_)
  · rw [if_pos c2] at hf
    refine sp_iload_n (pc := 64) dX8_newestGrave_64 2 rfl ?_
    obtain rfl := Option.some.inj hf
    exact sp_ireturn (pc := 65) dX8_newestGrave_65 rfl rfl (hQ _)
  · rw [if_neg c2] at hf
    refine sp_aload_n (pc := 12) dX8_newestGrave_12 0 rfl ?_
    refine sp_iload_n (pc := 13) dX8_newestGrave_13 3 rfl ?_
    obtain ⟨y3, ey3, hf⟩ := ob hf
    obtain ⟨fsy3, hoy3⟩ := o_X8_isEntry ey3
    refine sp_callVi (pc := 14) (z := M_X8_isEntry) (As := [.int v3]) (b := v0) (bc2 := bc) (bs2 := bs) (m_X8_isEntry (Q := _) (fun sz => ⟨y3, rfl, ?_⟩) ey3) rfl dX8_newestGrave_14 hoy3 rfl rfl ck_X8_newestGrave_68 (Nat.le_of_ble_eq_true rfl) rfl rfl rfl
    refine sp_if_ne (pc := 17) (tgt := 56) dX8_newestGrave_17 (by decide) (fun c4 => ?_) (fun c4 => ?_)
    · rw [if_neg c4] at hf
      refine sp_iload_n (pc := 56) dX8_newestGrave_56 2 rfl ?_
      refine sp_istore_n (pc := 57) (lv' := [(2, .int v2), (0, .ref v0), (1, .int v1), (3, .int v3)]) dX8_newestGrave_57 (by decide) rfl ?_
      refine sp_iinc (pc := 58) (v := v3 + 1) (lv' := [(3, .int (v3 + 1)), (2, .int v2), (0, .ref v0), (1, .int v1)]) dX8_newestGrave_58 3 rfl rfl (by decide) rfl ?_
      refine sp_goto (pc := 61) (tgt := 4) dX8_newestGrave_61 (by decide) ?_
      exact sp_sub [2, 3, 1, 0] rfl (hk4 _ _ _ hf)
    · rw [if_pos c4] at hf
      refine sp_aload_n (pc := 20) dX8_newestGrave_20 0 rfl ?_
      refine sp_iload_n (pc := 21) dX8_newestGrave_21 3 rfl ?_
      refine sp_iload_n (pc := 22) dX8_newestGrave_22 1 rfl ?_
      obtain ⟨y5, ey5, hf⟩ := ob hf
      obtain ⟨fsy5, hoy5⟩ := o_X8_concerns ey5
      refine sp_callVi (pc := 23) (z := M_X8_concerns) (As := [.int v3, .int v1]) (b := v0) (bc2 := bc) (bs2 := bs) (m_X8_concerns (Q := _) (fun sz => ⟨y5, rfl, ?_⟩) ey5) rfl dX8_newestGrave_23 hoy5 rfl rfl ck_X8_newestGrave_58 (Nat.le_of_ble_eq_true rfl) rfl rfl rfl
      refine sp_if_eq (pc := 26) (tgt := 56) dX8_newestGrave_26 (by decide) (fun c6 => ?_) (fun c6 => ?_)
      · rw [if_pos c6] at hf
        refine sp_iload_n (pc := 56) dX8_newestGrave_56 2 rfl ?_
        refine sp_istore_n (pc := 57) (lv' := [(2, .int v2), (0, .ref v0), (1, .int v1), (3, .int v3)]) dX8_newestGrave_57 (by decide) rfl ?_
        refine sp_iinc (pc := 58) (v := v3 + 1) (lv' := [(3, .int (v3 + 1)), (2, .int v2), (0, .ref v0), (1, .int v1)]) dX8_newestGrave_58 3 rfl rfl (by decide) rfl ?_
        refine sp_goto (pc := 61) (tgt := 4) dX8_newestGrave_61 (by decide) ?_
        exact sp_sub [2, 3, 1, 0] rfl (hk4 _ _ _ hf)
      · rw [if_neg c6] at hf
        refine sp_aload_n (pc := 29) dX8_newestGrave_29 0 rfl ?_
        obtain ⟨x7, ex7, hf⟩ := ob hf
        refine sp_gR (pc := 30) fl_RX8_7 dX8_newestGrave_30 ex7 ?_
        refine sp_iload_n (pc := 33) dX8_newestGrave_33 3 rfl ?_
        refine sp_iconst (pc := 34) (v := 0) dX8_newestGrave_34 (by decide) ?_
        obtain ⟨y8, ey8, hf⟩ := ob hf
        refine sp_callSi (pc := 35) (z := M_X8_of) (As := [.int v3, .int 0]) (bc2 := bc) (bs2 := bs) (m_X8_of (Q := _) (fun sz => ⟨y8, rfl, ?_⟩) ey8) rfl dX8_newestGrave_35 rfl ck_X8_newestGrave_50 (Nat.le_of_ble_eq_true rfl) rfl rfl rfl
        obtain ⟨x9, ex9, hf⟩ := ob hf
        refine sp_aI (pc := 38) dX8_newestGrave_38 ex9 ?_
        refine sp_iload_n (pc := 39) dX8_newestGrave_39 2 rfl ?_
        refine sp_icmp_le (pc := 40) (tgt := 56) dX8_newestGrave_40 (by decide) (fun c10 => ?_) (fun c10 => ?_)
        · rw [if_pos c10] at hf
          refine sp_iload_n (pc := 56) dX8_newestGrave_56 2 rfl ?_
          refine sp_istore_n (pc := 57) (lv' := [(2, .int v2), (0, .ref v0), (1, .int v1), (3, .int v3)]) dX8_newestGrave_57 (by decide) rfl ?_
          refine sp_iinc (pc := 58) (v := v3 + 1) (lv' := [(3, .int (v3 + 1)), (2, .int v2), (0, .ref v0), (1, .int v1)]) dX8_newestGrave_58 3 rfl rfl (by decide) rfl ?_
          refine sp_goto (pc := 61) (tgt := 4) dX8_newestGrave_61 (by decide) ?_
          exact sp_sub [2, 3, 1, 0] rfl (hk4 _ _ _ hf)
        · rw [if_neg c10] at hf
          refine sp_aload_n (pc := 43) dX8_newestGrave_43 0 rfl ?_
          obtain ⟨x11, ex11, hf⟩ := ob hf
          refine sp_gR (pc := 44) fl_RX8_7 dX8_newestGrave_44 ex11 ?_
          refine sp_iload_n (pc := 47) dX8_newestGrave_47 3 rfl ?_
          refine sp_iconst (pc := 48) (v := 0) dX8_newestGrave_48 (by decide) ?_
          obtain ⟨y12, ey12, hf⟩ := ob hf
          refine sp_callSi (pc := 49) (z := M_X8_of) (As := [.int v3, .int 0]) (bc2 := bc) (bs2 := bs) (m_X8_of (Q := _) (fun sz => ⟨y12, rfl, ?_⟩) ey12) rfl dX8_newestGrave_49 rfl ck_X8_newestGrave_50 (Nat.le_of_ble_eq_true rfl) rfl rfl rfl
          obtain ⟨x13, ex13, hf⟩ := ob hf
          refine sp_aI (pc := 52) dX8_newestGrave_52 ex13 ?_
          refine sp_goto (pc := 53) (tgt := 57) dX8_newestGrave_53 (by decide) ?_
          refine sp_istore_n (pc := 57) (lv' := [(2, .int x13), (0, .ref v0), (1, .int v1), (3, .int v3)]) dX8_newestGrave_57 (by decide) rfl ?_
          refine sp_iinc (pc := 58) (v := v3 + 1) (lv' := [(3, .int (v3 + 1)), (2, .int x13), (0, .ref v0), (1, .int v1)]) dX8_newestGrave_58 3 rfl rfl (by decide) rfl ?_
          refine sp_goto (pc := 61) (tgt := 4) dX8_newestGrave_61 (by decide) ?_
          exact sp_sub [2, 3, 1, 0] rfl (hk4 _ _ _ hf)

theorem w_X8_newestGrave_4 {l : Launch} {X : SCR} {Q : PST} {bc bs : Nat} {res : Int32} {h : HP} (hQ : ∀ sz', Q (.inl (some (.int res))) h sz') {v0 : Nat} {v1 : Int32} : ∀ (n : Nat) {v2 : Int32} {v3 : Int32} {sz : Nat}, b_X8_newestGrave_4 h v0 v1 n v2 v3 = some res → SP l X M_X8_newestGrave 4 [(0, .ref v0), (1, .int v1), (2, .int v2), (3, .int v3)] [] h sz bc bs Q := by
  intro n
  induction n with
  | zero =>
    intro v2 v3 sz hf
    rw [b_X8_newestGrave_4] at hf
    cases hf
  | succ n ih =>
    intro v2 v3 sz hf
    rw [b_X8_newestGrave_4] at hf
    exact wc_X8_newestGrave_4 hQ (fun v2 v3 sz hf => ih hf) hf

theorem w_X8_newestGrave_0 {l : Launch} {X : SCR} {Q : PST} {bc bs : Nat} {res : Int32} {h : HP} (hQ : ∀ sz', Q (.inl (some (.int res))) h sz') {v0 : Nat} {v1 : Int32} {sz : Nat} (hf : b_X8_newestGrave_0 h v0 v1  = some res) : SP l X M_X8_newestGrave 0 [(0, .ref v0), (1, .int v1)] [] h sz bc bs Q := by
  rw [b_X8_newestGrave_0] at hf
  refine sp_iconst (pc := 0) (v := (-1)) dX8_newestGrave_0 (by decide) ?_
  refine sp_istore_n (pc := 1) (lv' := [(2, .int (-1)), (0, .ref v0), (1, .int v1)]) dX8_newestGrave_1 (by decide) rfl ?_
  refine sp_iconst (pc := 2) (v := 0) dX8_newestGrave_2 (by decide) ?_
  refine sp_istore_n (pc := 3) (lv' := [(3, .int 0), (2, .int (-1)), (0, .ref v0), (1, .int v1)]) dX8_newestGrave_3 (by decide) rfl ?_
  exact sp_sub [2, 3, 1, 0] rfl (w_X8_newestGrave_4 hQ FU hf)

theorem o_X8_newestGrave {h : HP} {v0 : Nat} {v1 : Int32} {res : Int32} (hf : f_X8_newestGrave h v0 v1 = some res) : ∃ fs, h v0 = some (.inr (8, fs)) := by
  obtain ⟨u, eu, -⟩ := ob hf
  exact kO_spec eu

theorem m_X8_newestGrave {l : Launch} {Q : PST} {h : HP} {v0 : Nat} {v1 : Int32} {sz : Nat} {res : Int32} (hQ : ∀ sz', Q (.inl (some (.int res))) h sz') (hf : f_X8_newestGrave h v0 v1 = some res) : MM l M_X8_newestGrave [.ref v0, .int v1] h sz Q := by
  obtain ⟨u, eu, hf⟩ := ob hf
  exact MM_of wok_X8_newestGrave (by decide +kernel) (Nat.le_of_ble_eq_true rfl) ((w_X8_newestGrave_0 hQ hf))

theorem dX8_grave_0 : decode (mB M_X8_grave) 0 = .ok (.aload_n 0, 1) := by decide +kernel
theorem dX8_grave_1 : decode (mB M_X8_grave) 1 = .ok (.iload_n 1, 1) := by decide +kernel
theorem dX8_grave_2 : decode (mB M_X8_grave) 2 = .ok (.invokestatic 97, 3) := by decide +kernel
theorem dX8_grave_5 : decode (mB M_X8_grave) 5 = .ok (.ifCond .eq 7, 3) := by decide +kernel
theorem dX8_grave_8 : decode (mB M_X8_grave) 8 = .ok (.iconst 0, 1) := by decide +kernel
theorem dX8_grave_9 : decode (mB M_X8_grave) 9 = .ok (.goto 4, 3) := by decide +kernel
theorem dX8_grave_12 : decode (mB M_X8_grave) 12 = .ok (.iconst 1, 1) := by decide +kernel
theorem dX8_grave_13 : decode (mB M_X8_grave) 13 = .ok (.invokevirtual 124, 3) := by decide +kernel
theorem dX8_grave_16 : decode (mB M_X8_grave) 16 = .ok (.ifCond .eq 11, 3) := by decide +kernel
theorem dX8_grave_19 : decode (mB M_X8_grave) 19 = .ok (.aload_n 0, 1) := by decide +kernel
theorem dX8_grave_20 : decode (mB M_X8_grave) 20 = .ok (.iload_n 1, 1) := by decide +kernel
theorem dX8_grave_21 : decode (mB M_X8_grave) 21 = .ok (.invokevirtual 224, 3) := by decide +kernel
theorem dX8_grave_24 : decode (mB M_X8_grave) 24 = .ok (.goto 4, 3) := by decide +kernel
theorem dX8_grave_27 : decode (mB M_X8_grave) 27 = .ok (.iconst 0, 1) := by decide +kernel
theorem dX8_grave_28 : decode (mB M_X8_grave) 28 = .ok (.ireturn, 1) := by decide +kernel
def b_X8_grave_13 (v0 : Nat) (v1 : Int32) (h : HP) (s0 : Nat) (s1 : Int32) : Option (Int32 × HP) :=
  (f_X8_holds h s0 s1).bind fun y1 => if y1.1 = 0 then some (0, y1.2) else (f_X8_newestGrave y1.2 v0 v1).bind fun y3 => some (y3, y1.2)
def b_X8_grave_0 (v0 : Nat) (v1 : Int32) (h : HP) : Option (Int32 × HP) :=
  (f_X8_isKey h v1).bind fun y1 => if y1 = 0 then b_X8_grave_13 v0 v1 h v0 1 else b_X8_grave_13 v0 v1 h v0 0
def f_X8_grave (h : HP) (v0 : Nat) (v1 : Int32) : Option (Int32 × HP) := (kO 8 h v0).bind fun _ => b_X8_grave_0 v0 v1 h
theorem w_X8_grave_13 {l : Launch} {X : SCR} {Q : PST} {bc bs : Nat} {res : Int32 × HP} {h : HP} (hQ : ∀ sz', Q (.inl (some (.int res.1))) res.2 sz') {v0 : Nat} {v1 : Int32} {s0 : Nat} {s1 : Int32} {sz : Nat} (hf : b_X8_grave_13 v0 v1 h s0 s1 = some res) : SP l X M_X8_grave 13 [(0, .ref v0), (1, .int v1)] [.int s1, .ref s0] h sz bc bs Q := by
  rw [b_X8_grave_13] at hf
  obtain ⟨y1, ey1, hf⟩ := ob hf
  obtain ⟨fsy1, hoy1⟩ := o_X8_holds ey1
  refine sp_callVi (pc := 13) (z := M_X8_holds) (As := [.int s1]) (b := s0) (bc2 := bc) (bs2 := bs) (m_X8_holds (Q := _) (fun sz => ⟨y1.1, rfl, ?_⟩) ey1) rfl dX8_grave_13 hoy1 rfl rfl ck_X8_grave_124 (Nat.le_of_ble_eq_true rfl) rfl rfl rfl
  refine sp_if_eq (pc := 16) (tgt := 27) dX8_grave_16 (by decide) (fun c2 => ?_) (fun c2 => ?_)
  · rw [if_pos c2] at hf
    refine sp_iconst (pc := 27) (v := 0) dX8_grave_27 (by decide) ?_
    obtain rfl := Option.some.inj hf
    exact sp_ireturn (pc := 28) dX8_grave_28 rfl rfl (hQ _)
  · rw [if_neg c2] at hf
    refine sp_aload_n (pc := 19) dX8_grave_19 0 rfl ?_
    refine sp_iload_n (pc := 20) dX8_grave_20 1 rfl ?_
    obtain ⟨y3, ey3, hf⟩ := ob hf
    obtain ⟨fsy3, hoy3⟩ := o_X8_newestGrave ey3
    refine sp_callVi (pc := 21) (z := M_X8_newestGrave) (As := [.int v1]) (b := v0) (bc2 := bc) (bs2 := bs) (m_X8_newestGrave (Q := _) (fun sz => ⟨y3, rfl, ?_⟩) ey3) rfl dX8_grave_21 hoy3 rfl rfl ck_X8_grave_224 (Nat.le_of_ble_eq_true rfl) rfl rfl rfl
    refine sp_goto (pc := 24) (tgt := 28) dX8_grave_24 (by decide) ?_
    obtain rfl := Option.some.inj hf
    exact sp_ireturn (pc := 28) dX8_grave_28 rfl rfl (hQ _)

theorem w_X8_grave_0 {l : Launch} {X : SCR} {Q : PST} {bc bs : Nat} {res : Int32 × HP} {h : HP} (hQ : ∀ sz', Q (.inl (some (.int res.1))) res.2 sz') {v0 : Nat} {v1 : Int32} {sz : Nat} (hf : b_X8_grave_0 v0 v1 h  = some res) : SP l X M_X8_grave 0 [(0, .ref v0), (1, .int v1)] [] h sz bc bs Q := by
  rw [b_X8_grave_0] at hf
  refine sp_aload_n (pc := 0) dX8_grave_0 0 rfl ?_
  refine sp_iload_n (pc := 1) dX8_grave_1 1 rfl ?_
  obtain ⟨y1, ey1, hf⟩ := ob hf
  refine sp_callSi (pc := 2) (z := M_X8_isKey) (As := [.int v1]) (bc2 := bc) (bs2 := bs) (m_X8_isKey (Q := _) (fun sz => ⟨y1, rfl, ?_⟩) ey1) rfl dX8_grave_2 rfl ck_X8_grave_97 (Nat.le_of_ble_eq_true rfl) rfl rfl rfl
  refine sp_if_eq (pc := 5) (tgt := 12) dX8_grave_5 (by decide) (fun c2 => ?_) (fun c2 => ?_)
  · rw [if_pos c2] at hf
    refine sp_iconst (pc := 12) (v := 1) dX8_grave_12 (by decide) ?_
    exact (w_X8_grave_13 hQ hf)
  · rw [if_neg c2] at hf
    refine sp_iconst (pc := 8) (v := 0) dX8_grave_8 (by decide) ?_
    refine sp_goto (pc := 9) (tgt := 13) dX8_grave_9 (by decide) ?_
    exact (w_X8_grave_13 hQ hf)

theorem o_X8_grave {h : HP} {v0 : Nat} {v1 : Int32} {res : Int32 × HP} (hf : f_X8_grave h v0 v1 = some res) : ∃ fs, h v0 = some (.inr (8, fs)) := by
  obtain ⟨u, eu, -⟩ := ob hf
  exact kO_spec eu

theorem m_X8_grave {l : Launch} {Q : PST} {h : HP} {v0 : Nat} {v1 : Int32} {sz : Nat} {res : Int32 × HP} (hQ : ∀ sz', Q (.inl (some (.int res.1))) res.2 sz') (hf : f_X8_grave h v0 v1 = some res) : MM l M_X8_grave [.ref v0, .int v1] h sz Q := by
  obtain ⟨u, eu, hf⟩ := ob hf
  exact MM_of wok_X8_grave (by decide +kernel) (Nat.le_of_ble_eq_true rfl) ((w_X8_grave_0 hQ hf))

theorem dX8_savedBy_0 : decode (mB M_X8_savedBy) 0 = .ok (.aload_n 0, 1) := by decide +kernel
theorem dX8_savedBy_1 : decode (mB M_X8_savedBy) 1 = .ok (.getfield 7, 3) := by decide +kernel
theorem dX8_savedBy_4 : decode (mB M_X8_savedBy) 4 = .ok (.iconst 1, 1) := by decide +kernel
theorem dX8_savedBy_5 : decode (mB M_X8_savedBy) 5 = .ok (.iload_n 1, 1) := by decide +kernel
theorem dX8_savedBy_6 : decode (mB M_X8_savedBy) 6 = .ok (.iadd, 1) := by decide +kernel
theorem dX8_savedBy_7 : decode (mB M_X8_savedBy) 7 = .ok (.iaload, 1) := by decide +kernel
theorem dX8_savedBy_8 : decode (mB M_X8_savedBy) 8 = .ok (.aload_n 0, 1) := by decide +kernel
theorem dX8_savedBy_9 : decode (mB M_X8_savedBy) 9 = .ok (.getfield 7, 3) := by decide +kernel
theorem dX8_savedBy_12 : decode (mB M_X8_savedBy) 12 = .ok (.iconst 1, 1) := by decide +kernel
theorem dX8_savedBy_13 : decode (mB M_X8_savedBy) 13 = .ok (.iload_n 1, 1) := by decide +kernel
theorem dX8_savedBy_14 : decode (mB M_X8_savedBy) 14 = .ok (.iadd, 1) := by decide +kernel
theorem dX8_savedBy_15 : decode (mB M_X8_savedBy) 15 = .ok (.iconst 1, 1) := by decide +kernel
theorem dX8_savedBy_16 : decode (mB M_X8_savedBy) 16 = .ok (.iadd, 1) := by decide +kernel
theorem dX8_savedBy_17 : decode (mB M_X8_savedBy) 17 = .ok (.iaload, 1) := by decide +kernel
theorem dX8_savedBy_18 : decode (mB M_X8_savedBy) 18 = .ok (.iadd, 1) := by decide +kernel
theorem dX8_savedBy_19 : decode (mB M_X8_savedBy) 19 = .ok (.aload_n 0, 1) := by decide +kernel
theorem dX8_savedBy_20 : decode (mB M_X8_savedBy) 20 = .ok (.getfield 78, 3) := by decide +kernel
theorem dX8_savedBy_23 : decode (mB M_X8_savedBy) 23 = .ok (.isub, 1) := by decide +kernel
theorem dX8_savedBy_24 : decode (mB M_X8_savedBy) 24 = .ok (.ireturn, 1) := by decide +kernel
def b_X8_savedBy_0 (h : HP) (v0 : Nat) (v1 : Int32) : Option (Int32) :=
  (gR 8 1 h v0).bind fun x1 => (aI h x1 (1 + v1)).bind fun x2 => (gR 8 1 h v0).bind fun x3 => (aI h x3 ((1 + v1) + 1)).bind fun x4 => (gI 8 10 h v0).bind fun x5 => some ((x2 + x4) - x5)
def f_X8_savedBy (h : HP) (v0 : Nat) (v1 : Int32) : Option (Int32) := (kO 8 h v0).bind fun _ => b_X8_savedBy_0 h v0 v1
theorem w_X8_savedBy_0 {l : Launch} {X : SCR} {Q : PST} {bc bs : Nat} {res : Int32} {h : HP} (hQ : ∀ sz', Q (.inl (some (.int res))) h sz') {v0 : Nat} {v1 : Int32} {sz : Nat} (hf : b_X8_savedBy_0 h v0 v1  = some res) : SP l X M_X8_savedBy 0 [(0, .ref v0), (1, .int v1)] [] h sz bc bs Q := by
  rw [b_X8_savedBy_0] at hf
  refine sp_aload_n (pc := 0) dX8_savedBy_0 0 rfl ?_
  obtain ⟨x1, ex1, hf⟩ := ob hf
  refine sp_gR (pc := 1) fl_RX8_7 dX8_savedBy_1 ex1 ?_
  refine sp_iconst (pc := 4) (v := 1) dX8_savedBy_4 (by decide) ?_
  refine sp_iload_n (pc := 5) dX8_savedBy_5 1 rfl ?_
  refine sp_iadd (pc := 6) dX8_savedBy_6 ?_
  obtain ⟨x2, ex2, hf⟩ := ob hf
  refine sp_aI (pc := 7) dX8_savedBy_7 ex2 ?_
  refine sp_aload_n (pc := 8) dX8_savedBy_8 0 rfl ?_
  obtain ⟨x3, ex3, hf⟩ := ob hf
  refine sp_gR (pc := 9) fl_RX8_7 dX8_savedBy_9 ex3 ?_
  refine sp_iconst (pc := 12) (v := 1) dX8_savedBy_12 (by decide) ?_
  refine sp_iload_n (pc := 13) dX8_savedBy_13 1 rfl ?_
  refine sp_iadd (pc := 14) dX8_savedBy_14 ?_
  refine sp_iconst (pc := 15) (v := 1) dX8_savedBy_15 (by decide) ?_
  refine sp_iadd (pc := 16) dX8_savedBy_16 ?_
  obtain ⟨x4, ex4, hf⟩ := ob hf
  refine sp_aI (pc := 17) dX8_savedBy_17 ex4 ?_
  refine sp_iadd (pc := 18) dX8_savedBy_18 ?_
  refine sp_aload_n (pc := 19) dX8_savedBy_19 0 rfl ?_
  obtain ⟨x5, ex5, hf⟩ := ob hf
  refine sp_gI (pc := 20) fl_RX8_78 dX8_savedBy_20 ex5 ?_
  refine sp_isub (pc := 23) dX8_savedBy_23 ?_
  obtain rfl := Option.some.inj hf
  exact sp_ireturn (pc := 24) dX8_savedBy_24 rfl rfl (hQ _)

theorem o_X8_savedBy {h : HP} {v0 : Nat} {v1 : Int32} {res : Int32} (hf : f_X8_savedBy h v0 v1 = some res) : ∃ fs, h v0 = some (.inr (8, fs)) := by
  obtain ⟨u, eu, -⟩ := ob hf
  exact kO_spec eu

theorem m_X8_savedBy {l : Launch} {Q : PST} {h : HP} {v0 : Nat} {v1 : Int32} {sz : Nat} {res : Int32} (hQ : ∀ sz', Q (.inl (some (.int res))) h sz') (hf : f_X8_savedBy h v0 v1 = some res) : MM l M_X8_savedBy [.ref v0, .int v1] h sz Q := by
  obtain ⟨u, eu, hf⟩ := ob hf
  exact MM_of wok_X8_savedBy (by decide +kernel) (Nat.le_of_ble_eq_true rfl) ((w_X8_savedBy_0 hQ hf))

theorem dX8_saves_0 : decode (mB M_X8_saves) 0 = .ok (.aload_n 0, 1) := by decide +kernel
theorem dX8_saves_1 : decode (mB M_X8_saves) 1 = .ok (.aload_n 0, 1) := by decide +kernel
theorem dX8_saves_2 : decode (mB M_X8_saves) 2 = .ok (.iload_n 1, 1) := by decide +kernel
theorem dX8_saves_3 : decode (mB M_X8_saves) 3 = .ok (.invokevirtual 158, 3) := by decide +kernel
theorem dX8_saves_6 : decode (mB M_X8_saves) 6 = .ok (.invokevirtual 124, 3) := by decide +kernel
theorem dX8_saves_9 : decode (mB M_X8_saves) 9 = .ok (.ifCond .eq 11, 3) := by decide +kernel
theorem dX8_saves_12 : decode (mB M_X8_saves) 12 = .ok (.aload_n 0, 1) := by decide +kernel
theorem dX8_saves_13 : decode (mB M_X8_saves) 13 = .ok (.iload_n 1, 1) := by decide +kernel
theorem dX8_saves_14 : decode (mB M_X8_saves) 14 = .ok (.invokevirtual 227, 3) := by decide +kernel
theorem dX8_saves_17 : decode (mB M_X8_saves) 17 = .ok (.goto 4, 3) := by decide +kernel
theorem dX8_saves_20 : decode (mB M_X8_saves) 20 = .ok (.iconst 0, 1) := by decide +kernel
theorem dX8_saves_21 : decode (mB M_X8_saves) 21 = .ok (.ireturn, 1) := by decide +kernel
def b_X8_saves_0 (v0 : Nat) (v1 : Int32) (h : HP) : Option (Int32 × HP) :=
  (f_X8_mergeFault h v0 v1).bind fun y1 => (f_X8_holds y1.2 v0 y1.1).bind fun y2 => if y2.1 = 0 then some (0, y2.2) else (f_X8_savedBy y2.2 v0 v1).bind fun y4 => some (y4, y2.2)
def f_X8_saves (h : HP) (v0 : Nat) (v1 : Int32) : Option (Int32 × HP) := (kO 8 h v0).bind fun _ => b_X8_saves_0 v0 v1 h
theorem w_X8_saves_0 {l : Launch} {X : SCR} {Q : PST} {bc bs : Nat} {res : Int32 × HP} {h : HP} (hQ : ∀ sz', Q (.inl (some (.int res.1))) res.2 sz') {v0 : Nat} {v1 : Int32} {sz : Nat} (hf : b_X8_saves_0 v0 v1 h  = some res) : SP l X M_X8_saves 0 [(0, .ref v0), (1, .int v1)] [] h sz bc bs Q := by
  rw [b_X8_saves_0] at hf
  refine sp_aload_n (pc := 0) dX8_saves_0 0 rfl ?_
  refine sp_aload_n (pc := 1) dX8_saves_1 0 rfl ?_
  refine sp_iload_n (pc := 2) dX8_saves_2 1 rfl ?_
  obtain ⟨y1, ey1, hf⟩ := ob hf
  obtain ⟨fsy1, hoy1⟩ := o_X8_mergeFault ey1
  refine sp_callVi (pc := 3) (z := M_X8_mergeFault) (As := [.int v1]) (b := v0) (bc2 := bc) (bs2 := bs) (m_X8_mergeFault (Q := _) (fun sz => ⟨y1.1, rfl, ?_⟩) ey1) rfl dX8_saves_3 hoy1 rfl rfl ck_X8_saves_158 (Nat.le_of_ble_eq_true rfl) rfl rfl rfl
  obtain ⟨y2, ey2, hf⟩ := ob hf
  obtain ⟨fsy2, hoy2⟩ := o_X8_holds ey2
  refine sp_callVi (pc := 6) (z := M_X8_holds) (As := [.int y1.1]) (b := v0) (bc2 := bc) (bs2 := bs) (m_X8_holds (Q := _) (fun sz => ⟨y2.1, rfl, ?_⟩) ey2) rfl dX8_saves_6 hoy2 rfl rfl ck_X8_saves_124 (Nat.le_of_ble_eq_true rfl) rfl rfl rfl
  refine sp_if_eq (pc := 9) (tgt := 20) dX8_saves_9 (by decide) (fun c3 => ?_) (fun c3 => ?_)
  · rw [if_pos c3] at hf
    refine sp_iconst (pc := 20) (v := 0) dX8_saves_20 (by decide) ?_
    obtain rfl := Option.some.inj hf
    exact sp_ireturn (pc := 21) dX8_saves_21 rfl rfl (hQ _)
  · rw [if_neg c3] at hf
    refine sp_aload_n (pc := 12) dX8_saves_12 0 rfl ?_
    refine sp_iload_n (pc := 13) dX8_saves_13 1 rfl ?_
    obtain ⟨y4, ey4, hf⟩ := ob hf
    obtain ⟨fsy4, hoy4⟩ := o_X8_savedBy ey4
    refine sp_callVi (pc := 14) (z := M_X8_savedBy) (As := [.int v1]) (b := v0) (bc2 := bc) (bs2 := bs) (m_X8_savedBy (Q := _) (fun sz => ⟨y4, rfl, ?_⟩) ey4) rfl dX8_saves_14 hoy4 rfl rfl ck_X8_saves_227 (Nat.le_of_ble_eq_true rfl) rfl rfl rfl
    refine sp_goto (pc := 17) (tgt := 21) dX8_saves_17 (by decide) ?_
    obtain rfl := Option.some.inj hf
    exact sp_ireturn (pc := 21) dX8_saves_21 rfl rfl (hQ _)

theorem o_X8_saves {h : HP} {v0 : Nat} {v1 : Int32} {res : Int32 × HP} (hf : f_X8_saves h v0 v1 = some res) : ∃ fs, h v0 = some (.inr (8, fs)) := by
  obtain ⟨u, eu, -⟩ := ob hf
  exact kO_spec eu

theorem m_X8_saves {l : Launch} {Q : PST} {h : HP} {v0 : Nat} {v1 : Int32} {sz : Nat} {res : Int32 × HP} (hQ : ∀ sz', Q (.inl (some (.int res.1))) res.2 sz') (hf : f_X8_saves h v0 v1 = some res) : MM l M_X8_saves [.ref v0, .int v1] h sz Q := by
  obtain ⟨u, eu, hf⟩ := ob hf
  exact MM_of wok_X8_saves (by decide +kernel) (Nat.le_of_ble_eq_true rfl) ((w_X8_saves_0 hQ hf))

theorem dX8_best_0 : decode (mB M_X8_best) 0 = .ok (.aload_n 0, 1) := by decide +kernel
theorem dX8_best_1 : decode (mB M_X8_best) 1 = .ok (.iconst 0, 1) := by decide +kernel
theorem dX8_best_2 : decode (mB M_X8_best) 2 = .ok (.putfield 35, 3) := by decide +kernel
theorem dX8_best_5 : decode (mB M_X8_best) 5 = .ok (.iconst (-1), 1) := by decide +kernel
theorem dX8_best_6 : decode (mB M_X8_best) 6 = .ok (.istore_n 1, 1) := by decide +kernel
theorem dX8_best_7 : decode (mB M_X8_best) 7 = .ok (.iconst 0, 1) := by decide +kernel
theorem dX8_best_8 : decode (mB M_X8_best) 8 = .ok (.istore_n 2, 1) := by decide +kernel
theorem dX8_best_9 : decode (mB M_X8_best) 9 = .ok (.iconst 0, 1) := by decide +kernel
theorem dX8_best_10 : decode (mB M_X8_best) 10 = .ok (.istore_n 3, 1) := by decide +kernel
theorem dX8_best_11 : decode (mB M_X8_best) 11 = .ok (.iload_n 3, 1) := by decide +kernel
theorem dX8_best_12 : decode (mB M_X8_best) 12 = .ok (.iconst 1, 1) := by decide +kernel
theorem dX8_best_13 : decode (mB M_X8_best) 13 = .ok (.iadd, 1) := by decide +kernel
theorem dX8_best_14 : decode (mB M_X8_best) 14 = .ok (.aload_n 0, 1) := by decide +kernel
theorem dX8_best_15 : decode (mB M_X8_best) 15 = .ok (.getfield 7, 3) := by decide +kernel
theorem dX8_best_18 : decode (mB M_X8_best) 18 = .ok (.iconst 0, 1) := by decide +kernel
theorem dX8_best_19 : decode (mB M_X8_best) 19 = .ok (.iaload, 1) := by decide +kernel
theorem dX8_best_20 : decode (mB M_X8_best) 20 = .ok (.if_icmp .ge 65, 3) := by decide +kernel
theorem dX8_best_23 : decode (mB M_X8_best) 23 = .ok (.aload_n 0, 1) := by decide +kernel
theorem dX8_best_24 : decode (mB M_X8_best) 24 = .ok (.iload_n 3, 1) := by decide +kernel
theorem dX8_best_25 : decode (mB M_X8_best) 25 = .ok (.invokevirtual 158, 3) := by decide +kernel
theorem dX8_best_28 : decode (mB M_X8_best) 28 = .ok (.ifCond .ne 51, 3) := by decide +kernel
theorem dX8_best_31 : decode (mB M_X8_best) 31 = .ok (.aload_n 0, 1) := by decide +kernel
theorem dX8_best_32 : decode (mB M_X8_best) 32 = .ok (.iload_n 3, 1) := by decide +kernel
theorem dX8_best_33 : decode (mB M_X8_best) 33 = .ok (.invokevirtual 227, 3) := by decide +kernel
theorem dX8_best_36 : decode (mB M_X8_best) 36 = .ok (.istore 4, 2) := by decide +kernel
theorem dX8_best_38 : decode (mB M_X8_best) 38 = .ok (.iload_n 1, 1) := by decide +kernel
theorem dX8_best_39 : decode (mB M_X8_best) 39 = .ok (.iconst (-1), 1) := by decide +kernel
theorem dX8_best_40 : decode (mB M_X8_best) 40 = .ok (.if_icmp .eq 9, 3) := by decide +kernel
theorem dX8_best_43 : decode (mB M_X8_best) 43 = .ok (.iload 4, 2) := by decide +kernel
theorem dX8_best_45 : decode (mB M_X8_best) 45 = .ok (.iload_n 2, 1) := by decide +kernel
theorem dX8_best_46 : decode (mB M_X8_best) 46 = .ok (.if_icmp .le 7, 3) := by decide +kernel
theorem dX8_best_49 : decode (mB M_X8_best) 49 = .ok (.iconst 1, 1) := by decide +kernel
theorem dX8_best_50 : decode (mB M_X8_best) 50 = .ok (.goto 4, 3) := by decide +kernel
theorem dX8_best_53 : decode (mB M_X8_best) 53 = .ok (.iconst 0, 1) := by decide +kernel
theorem dX8_best_54 : decode (mB M_X8_best) 54 = .ok (.istore 5, 2) := by decide +kernel
theorem dX8_best_56 : decode (mB M_X8_best) 56 = .ok (.iload 5, 2) := by decide +kernel
theorem dX8_best_58 : decode (mB M_X8_best) 58 = .ok (.ifCond .eq 7, 3) := by decide +kernel
theorem dX8_best_61 : decode (mB M_X8_best) 61 = .ok (.iload_n 3, 1) := by decide +kernel
theorem dX8_best_62 : decode (mB M_X8_best) 62 = .ok (.goto 4, 3) := by decide +kernel
theorem dX8_best_65 : decode (mB M_X8_best) 65 = .ok (.iload_n 1, 1) := by decide +kernel
theorem dX8_best_66 : decode (mB M_X8_best) 66 = .ok (.istore_n 1, 1) := by decide +kernel
theorem dX8_best_67 : decode (mB M_X8_best) 67 = .ok (.iload 5, 2) := by decide +kernel
theorem dX8_best_69 : decode (mB M_X8_best) 69 = .ok (.ifCond .eq 8, 3) := by decide +kernel
theorem dX8_best_72 : decode (mB M_X8_best) 72 = .ok (.iload 4, 2) := by decide +kernel
theorem dX8_best_74 : decode (mB M_X8_best) 74 = .ok (.goto 4, 3) := by decide +kernel
theorem dX8_best_77 : decode (mB M_X8_best) 77 = .ok (.iload_n 2, 1) := by decide +kernel
theorem dX8_best_78 : decode (mB M_X8_best) 78 = .ok (.istore_n 2, 1) := by decide +kernel
theorem dX8_best_79 : decode (mB M_X8_best) 79 = .ok (.iinc 3 1, 3) := by decide +kernel
theorem dX8_best_82 : decode (mB M_X8_best) 82 = .ok (.goto (-71), 3) := by decide +kernel
theorem dX8_best_85 : decode (mB M_X8_best) 85 = .ok (.iload_n 1, 1) := by decide +kernel
theorem dX8_best_86 : decode (mB M_X8_best) 86 = .ok (.ireturn, 1) := by decide +kernel
def b_X8_best_66 (v0 : Nat) (k11 : HP → Int32 → Int32 → Int32 → Option (Int32 × HP)) (h : HP) (v2 : Int32) (v3 : Int32) (v4 : Int32) (v5 : Int32) (s0 : Int32) : Option (Int32 × HP) :=
  if v5 = 0 then k11 h s0 v2 (v3 + 1) else k11 h s0 v4 (v3 + 1)
def b_X8_best_54 (v0 : Nat) (k11 : HP → Int32 → Int32 → Int32 → Option (Int32 × HP)) (h : HP) (v1 : Int32) (v2 : Int32) (v3 : Int32) (v4 : Int32) (s0 : Int32) : Option (Int32 × HP) :=
  if s0 = 0 then b_X8_best_66 v0 k11 h v2 v3 v4 s0 v1 else b_X8_best_66 v0 k11 h v2 v3 v4 s0 v3
def c_X8_best_11 (v0 : Nat) (k11 : HP → Int32 → Int32 → Int32 → Option (Int32 × HP)) (h : HP) (v1 : Int32) (v2 : Int32) (v3 : Int32) : Option (Int32 × HP) :=
  (gR 8 1 h v0).bind fun x1 => (aI h x1 0).bind fun x2 => if x2 ≤ (v3 + 1) then some (v1, h) else (f_X8_mergeFault h v0 v3).bind fun y4 => if y4.1 = 0 then (f_X8_savedBy y4.2 v0 v3).bind fun y6 => if v1 = (-1) then b_X8_best_54 v0 k11 y4.2 v1 v2 v3 y6 1 else if y6 ≤ v2 then b_X8_best_54 v0 k11 y4.2 v1 v2 v3 y6 0 else b_X8_best_54 v0 k11 y4.2 v1 v2 v3 y6 1 else k11 y4.2 v1 v2 (v3 + 1)
def b_X8_best_11 (v0 : Nat) : Nat → HP → Int32 → Int32 → Int32 → Option (Int32 × HP)
  | 0, _, _, _, _ => none
  | n + 1, h, v1, v2, v3 => c_X8_best_11 v0 (b_X8_best_11 v0 n) h v1 v2 v3
def b_X8_best_0 (v0 : Nat) (h : HP) : Option (Int32 × HP) :=
  (pI 8 0 h v0 0).bind fun h1 => b_X8_best_11 v0 FU h1 ((-1)) 0 0
def f_X8_best (h : HP) (v0 : Nat) : Option (Int32 × HP) := (kO 8 h v0).bind fun _ => b_X8_best_0 v0 h
theorem w_X8_best_66 {l : Launch} {X : SCR} {Q : PST} {bc bs : Nat} {res : Int32 × HP} {h : HP} (hQ : ∀ sz', Q (.inl (some (.int res.1))) res.2 sz') {v0 : Nat} {k11 : HP → Int32 → Int32 → Int32 → Option (Int32 × HP)} (hk11 : ∀ (h : HP) (v1 : Int32) (v2 : Int32) (v3 : Int32) (sz : Nat), k11 h v1 v2 v3 = some res → SP l X M_X8_best 11 [(0, .ref v0), (1, .int v1), (2, .int v2), (3, .int v3)] [] h sz bc bs Q) {v2 : Int32} {v3 : Int32} {v4 : Int32} {v5 : Int32} {s0 : Int32} {sz : Nat} (hf : b_X8_best_66 v0 k11 h v2 v3 v4 v5 s0 = some res) : SP l X M_X8_best 66 [(0, .ref v0), (2, .int v2), (3, .int v3), (4, .int v4), (5, .int v5)] [.int s0] h sz bc bs Q := by
  rw [b_X8_best_66] at hf
  refine sp_istore_n (pc := 66) (lv' := [(1, .int s0), (0, .ref v0), (2, .int v2), (3, .int v3), (4, .int v4), (5, .int v5)]) dX8_best_66 (by decide) rfl ?_
  refine sp_iload (pc := 67) dX8_best_67 5 rfl ?_
  refine sp_if_eq (pc := 69) (tgt := 77) dX8_best_69 (by decide) (fun c1 => ?_) (fun c1 => ?_)
  · rw [if_pos c1] at hf
    refine sp_iload_n (pc := 77) dX8_best_77 2 rfl ?_
    refine sp_istore_n (pc := 78) (lv' := [(2, .int v2), (1, .int s0), (0, .ref v0), (3, .int v3), (4, .int v4), (5, .int v5)]) dX8_best_78 (by decide) rfl ?_
    refine sp_iinc (pc := 79) (v := v3 + 1) (lv' := [(3, .int (v3 + 1)), (2, .int v2), (1, .int s0), (0, .ref v0), (4, .int v4), (5, .int v5)]) dX8_best_79 3 rfl rfl (by decide) rfl ?_
    refine sp_goto (pc := 82) (tgt := 11) dX8_best_82 (by decide) ?_
    exact sp_sub [3, 2, 1, 0] rfl (hk11 _ _ _ _ _ hf)
  · rw [if_neg c1] at hf
    refine sp_iload (pc := 72) dX8_best_72 4 rfl ?_
    refine sp_goto (pc := 74) (tgt := 78) dX8_best_74 (by decide) ?_
    refine sp_istore_n (pc := 78) (lv' := [(2, .int v4), (1, .int s0), (0, .ref v0), (3, .int v3), (4, .int v4), (5, .int v5)]) dX8_best_78 (by decide) rfl ?_
    refine sp_iinc (pc := 79) (v := v3 + 1) (lv' := [(3, .int (v3 + 1)), (2, .int v4), (1, .int s0), (0, .ref v0), (4, .int v4), (5, .int v5)]) dX8_best_79 3 rfl rfl (by decide) rfl ?_
    refine sp_goto (pc := 82) (tgt := 11) dX8_best_82 (by decide) ?_
    exact sp_sub [3, 2, 1, 0] rfl (hk11 _ _ _ _ _ hf)

theorem w_X8_best_54 {l : Launch} {X : SCR} {Q : PST} {bc bs : Nat} {res : Int32 × HP} {h : HP} (hQ : ∀ sz', Q (.inl (some (.int res.1))) res.2 sz') {v0 : Nat} {k11 : HP → Int32 → Int32 → Int32 → Option (Int32 × HP)} (hk11 : ∀ (h : HP) (v1 : Int32) (v2 : Int32) (v3 : Int32) (sz : Nat), k11 h v1 v2 v3 = some res → SP l X M_X8_best 11 [(0, .ref v0), (1, .int v1), (2, .int v2), (3, .int v3)] [] h sz bc bs Q) {v1 : Int32} {v2 : Int32} {v3 : Int32} {v4 : Int32} {s0 : Int32} {sz : Nat} (hf : b_X8_best_54 v0 k11 h v1 v2 v3 v4 s0 = some res) : SP l X M_X8_best 54 [(0, .ref v0), (1, .int v1), (2, .int v2), (3, .int v3), (4, .int v4)] [.int s0] h sz bc bs Q := by
  rw [b_X8_best_54] at hf
  refine sp_istore (pc := 54) (lv' := [(5, .int s0), (0, .ref v0), (1, .int v1), (2, .int v2), (3, .int v3), (4, .int v4)]) dX8_best_54 (by decide) rfl ?_
  refine sp_iload (pc := 56) dX8_best_56 0 rfl ?_
  refine sp_if_eq (pc := 58) (tgt := 65) dX8_best_58 (by decide) (fun c1 => ?_) (fun c1 => ?_)
  · rw [if_pos c1] at hf
    refine sp_iload_n (pc := 65) dX8_best_65 2 rfl ?_
    exact sp_sub [1, 3, 4, 5, 0] rfl (w_X8_best_66 hQ hk11 hf)
  · rw [if_neg c1] at hf
    refine sp_iload_n (pc := 61) dX8_best_61 4 rfl ?_
    refine sp_goto (pc := 62) (tgt := 66) dX8_best_62 (by decide) ?_
    exact sp_sub [1, 3, 4, 5, 0] rfl (w_X8_best_66 hQ hk11 hf)

theorem wc_X8_best_11 {l : Launch} {X : SCR} {Q : PST} {bc bs : Nat} {res : Int32 × HP} (hQ : ∀ sz', Q (.inl (some (.int res.1))) res.2 sz') {v0 : Nat} {k11 : HP → Int32 → Int32 → Int32 → Option (Int32 × HP)} (hk11 : ∀ (h : HP) (v1 : Int32) (v2 : Int32) (v3 : Int32) (sz : Nat), k11 h v1 v2 v3 = some res → SP l X M_X8_best 11 [(0, .ref v0), (1, .int v1), (2, .int v2), (3, .int v3)] [] h sz bc bs Q) {h : HP} {v1 : Int32} {v2 : Int32} {v3 : Int32} {sz : Nat} (hf : c_X8_best_11 v0 k11 h v1 v2 v3 = some res) : SP l X M_X8_best 11 [(0, .ref v0), (1, .int v1), (2, .int v2), (3, .int v3)] [] h sz bc bs Q := by
  rw [c_X8_best_11] at hf
  refine sp_iload_n (pc := 11) dX8_best_11 3 rfl ?_
  refine sp_iconst (pc := 12) (v := 1) dX8_best_12 (by decide) ?_
  refine sp_iadd (pc := 13) dX8_best_13 ?_
  refine sp_aload_n (pc := 14) dX8_best_14 0 rfl ?_
  obtain ⟨x1, ex1, hf⟩ := ob hf
  refine sp_gR (pc := 15) fl_RX8_7 dX8_best_15 ex1 ?_
  refine sp_iconst (pc := 18) (v := 0) dX8_best_18 (by decide) ?_
  obtain ⟨x2, ex2, hf⟩ := ob hf
  refine sp_aI (pc := 19) dX8_best_19 ex2 ?_
  refine sp_icmp_ge (pc := 20) (tgt := 85) dX8_best_20 (by decide) (fun c3 => ?_) (fun c3 => ?_)
  · rw [if_pos c3] at hf
    refine sp_iload_n (pc := 85) dX8_best_85 1 rfl ?_
    obtain rfl := Option.some.inj hf
    exact sp_ireturn (pc := 86) dX8_best_86 rfl rfl (hQ _)
  · rw [if_neg c3] at hf
    refine sp_aload_n (pc := 23) dX8_best_23 0 rfl ?_
    refine sp_iload_n (pc := 24) dX8_best_24 3 rfl ?_
    obtain ⟨y4, ey4, hf⟩ := ob hf
    obtain ⟨fsy4, hoy4⟩ := o_X8_mergeFault ey4
    refine sp_callVi (pc := 25) (z := M_X8_mergeFault) (As := [.int v3]) (b := v0) (bc2 := bc) (bs2 := bs) (m_X8_mergeFault (Q := _) (fun sz => ⟨y4.1, rfl, ?_⟩) ey4) rfl dX8_best_25 hoy4 rfl rfl ck_X8_best_158 (Nat.le_of_ble_eq_true rfl) rfl rfl rfl
    refine sp_if_ne (pc := 28) (tgt := 79) dX8_best_28 (by decide) (fun c5 => ?_) (fun c5 => ?_)
    · rw [if_neg c5] at hf
      refine sp_iinc (pc := 79) (v := v3 + 1) (lv' := [(3, .int (v3 + 1)), (0, .ref v0), (1, .int v1), (2, .int v2)]) dX8_best_79 3 rfl rfl (by decide) rfl ?_
      refine sp_goto (pc := 82) (tgt := 11) dX8_best_82 (by decide) ?_
      exact sp_sub [1, 2, 3, 0] rfl (hk11 _ _ _ _ _ hf)
    · rw [if_pos c5] at hf
      refine sp_aload_n (pc := 31) dX8_best_31 0 rfl ?_
      refine sp_iload_n (pc := 32) dX8_best_32 3 rfl ?_
      obtain ⟨y6, ey6, hf⟩ := ob hf
      obtain ⟨fsy6, hoy6⟩ := o_X8_savedBy ey6
      refine sp_callVi (pc := 33) (z := M_X8_savedBy) (As := [.int v3]) (b := v0) (bc2 := bc) (bs2 := bs) (m_X8_savedBy (Q := _) (fun sz => ⟨y6, rfl, ?_⟩) ey6) rfl dX8_best_33 hoy6 rfl rfl ck_X8_best_227 (Nat.le_of_ble_eq_true rfl) rfl rfl rfl
      refine sp_istore (pc := 36) (lv' := [(4, .int y6), (0, .ref v0), (1, .int v1), (2, .int v2), (3, .int v3)]) dX8_best_36 (by decide) rfl ?_
      refine sp_iload_n (pc := 38) dX8_best_38 2 rfl ?_
      refine sp_iconst (pc := 39) (v := (-1)) dX8_best_39 (by decide) ?_
      refine sp_icmp_eq (pc := 40) (tgt := 49) dX8_best_40 (by decide) (fun c7 => ?_) (fun c7 => ?_)
      · rw [if_pos c7] at hf
        refine sp_iconst (pc := 49) (v := 1) dX8_best_49 (by decide) ?_
        refine sp_goto (pc := 50) (tgt := 54) dX8_best_50 (by decide) ?_
        exact sp_sub [1, 2, 3, 4, 0] rfl (w_X8_best_54 hQ hk11 hf)
      · rw [if_neg c7] at hf
        refine sp_iload (pc := 43) dX8_best_43 0 rfl ?_
        refine sp_iload_n (pc := 45) dX8_best_45 3 rfl ?_
        refine sp_icmp_le (pc := 46) (tgt := 53) dX8_best_46 (by decide) (fun c8 => ?_) (fun c8 => ?_)
        · rw [if_pos c8] at hf
          refine sp_iconst (pc := 53) (v := 0) dX8_best_53 (by decide) ?_
          exact sp_sub [1, 2, 3, 4, 0] rfl (w_X8_best_54 hQ hk11 hf)
        · rw [if_neg c8] at hf
          refine sp_iconst (pc := 49) (v := 1) dX8_best_49 (by decide) ?_
          refine sp_goto (pc := 50) (tgt := 54) dX8_best_50 (by decide) ?_
          exact sp_sub [1, 2, 3, 4, 0] rfl (w_X8_best_54 hQ hk11 hf)

theorem w_X8_best_11 {l : Launch} {X : SCR} {Q : PST} {bc bs : Nat} {res : Int32 × HP} (hQ : ∀ sz', Q (.inl (some (.int res.1))) res.2 sz') {v0 : Nat} : ∀ (n : Nat) {h : HP} {v1 : Int32} {v2 : Int32} {v3 : Int32} {sz : Nat}, b_X8_best_11 v0 n h v1 v2 v3 = some res → SP l X M_X8_best 11 [(0, .ref v0), (1, .int v1), (2, .int v2), (3, .int v3)] [] h sz bc bs Q := by
  intro n
  induction n with
  | zero =>
    intro h v1 v2 v3 sz hf
    rw [b_X8_best_11] at hf
    cases hf
  | succ n ih =>
    intro h v1 v2 v3 sz hf
    rw [b_X8_best_11] at hf
    exact wc_X8_best_11 hQ (fun h v1 v2 v3 sz hf => ih hf) hf

theorem w_X8_best_0 {l : Launch} {X : SCR} {Q : PST} {bc bs : Nat} {res : Int32 × HP} {h : HP} (hQ : ∀ sz', Q (.inl (some (.int res.1))) res.2 sz') {v0 : Nat} {sz : Nat} (hf : b_X8_best_0 v0 h  = some res) : SP l X M_X8_best 0 [(0, .ref v0)] [] h sz bc bs Q := by
  rw [b_X8_best_0] at hf
  refine sp_aload_n (pc := 0) dX8_best_0 0 rfl ?_
  refine sp_iconst (pc := 1) (v := 0) dX8_best_1 (by decide) ?_
  obtain ⟨h1, eh1, hf⟩ := ob hf
  refine sp_pI (pc := 2) pf_RX8_35 dX8_best_2 eh1 (fun sz => ?_)
  refine sp_iconst (pc := 5) (v := (-1)) dX8_best_5 (by decide) ?_
  refine sp_istore_n (pc := 6) (lv' := [(1, .int (-1)), (0, .ref v0)]) dX8_best_6 (by decide) rfl ?_
  refine sp_iconst (pc := 7) (v := 0) dX8_best_7 (by decide) ?_
  refine sp_istore_n (pc := 8) (lv' := [(2, .int 0), (1, .int (-1)), (0, .ref v0)]) dX8_best_8 (by decide) rfl ?_
  refine sp_iconst (pc := 9) (v := 0) dX8_best_9 (by decide) ?_
  refine sp_istore_n (pc := 10) (lv' := [(3, .int 0), (2, .int 0), (1, .int (-1)), (0, .ref v0)]) dX8_best_10 (by decide) rfl ?_
  exact sp_sub [3, 2, 1, 0] rfl (w_X8_best_11 hQ FU hf)

theorem o_X8_best {h : HP} {v0 : Nat} {res : Int32 × HP} (hf : f_X8_best h v0 = some res) : ∃ fs, h v0 = some (.inr (8, fs)) := by
  obtain ⟨u, eu, -⟩ := ob hf
  exact kO_spec eu

theorem m_X8_best {l : Launch} {Q : PST} {h : HP} {v0 : Nat} {sz : Nat} {res : Int32 × HP} (hQ : ∀ sz', Q (.inl (some (.int res.1))) res.2 sz') (hf : f_X8_best h v0 = some res) : MM l M_X8_best [.ref v0] h sz Q := by
  obtain ⟨u, eu, hf⟩ := ob hf
  exact MM_of wok_X8_best (by decide +kernel) (Nat.le_of_ble_eq_true rfl) ((w_X8_best_0 hQ hf))

theorem dX8_fewest_0 : decode (mB M_X8_fewest) 0 = .ok (.aload_n 0, 1) := by decide +kernel
theorem dX8_fewest_1 : decode (mB M_X8_fewest) 1 = .ok (.iconst 0, 1) := by decide +kernel
theorem dX8_fewest_2 : decode (mB M_X8_fewest) 2 = .ok (.putfield 35, 3) := by decide +kernel
theorem dX8_fewest_5 : decode (mB M_X8_fewest) 5 = .ok (.aload_n 0, 1) := by decide +kernel
theorem dX8_fewest_6 : decode (mB M_X8_fewest) 6 = .ok (.getfield 7, 3) := by decide +kernel
theorem dX8_fewest_9 : decode (mB M_X8_fewest) 9 = .ok (.bipush 6, 2) := by decide +kernel
theorem dX8_fewest_11 : decode (mB M_X8_fewest) 11 = .ok (.iaload, 1) := by decide +kernel
theorem dX8_fewest_12 : decode (mB M_X8_fewest) 12 = .ok (.ifCond .ne 20, 3) := by decide +kernel
theorem dX8_fewest_15 : decode (mB M_X8_fewest) 15 = .ok (.aload_n 0, 1) := by decide +kernel
theorem dX8_fewest_16 : decode (mB M_X8_fewest) 16 = .ok (.getfield 7, 3) := by decide +kernel
theorem dX8_fewest_19 : decode (mB M_X8_fewest) 19 = .ok (.iconst 0, 1) := by decide +kernel
theorem dX8_fewest_20 : decode (mB M_X8_fewest) 20 = .ok (.iaload, 1) := by decide +kernel
theorem dX8_fewest_21 : decode (mB M_X8_fewest) 21 = .ok (.iconst 2, 1) := by decide +kernel
theorem dX8_fewest_22 : decode (mB M_X8_fewest) 22 = .ok (.if_icmp .ge 10, 3) := by decide +kernel
theorem dX8_fewest_25 : decode (mB M_X8_fewest) 25 = .ok (.aload_n 0, 1) := by decide +kernel
theorem dX8_fewest_26 : decode (mB M_X8_fewest) 26 = .ok (.invokevirtual 54, 3) := by decide +kernel
theorem dX8_fewest_29 : decode (mB M_X8_fewest) 29 = .ok (.goto 11, 3) := by decide +kernel
theorem dX8_fewest_32 : decode (mB M_X8_fewest) 32 = .ok (.aload_n 0, 1) := by decide +kernel
theorem dX8_fewest_33 : decode (mB M_X8_fewest) 33 = .ok (.iconst 0, 1) := by decide +kernel
theorem dX8_fewest_34 : decode (mB M_X8_fewest) 34 = .ok (.bipush 99, 2) := by decide +kernel
theorem dX8_fewest_36 : decode (mB M_X8_fewest) 36 = .ok (.iconst (-1), 1) := by decide +kernel
theorem dX8_fewest_37 : decode (mB M_X8_fewest) 37 = .ok (.invokevirtual 100, 3) := by decide +kernel
theorem dX8_fewest_40 : decode (mB M_X8_fewest) 40 = .ok (.ireturn, 1) := by decide +kernel
def b_X8_fewest_32 (v0 : Nat) (h : HP) : Option (Int32 × HP) :=
  (f_X8_countSeen h v0 0 99 (-1)).bind fun y1 => some (y1, h)
def b_X8_fewest_0 (v0 : Nat) (h : HP) : Option (Int32 × HP) :=
  (pI 8 0 h v0 0).bind fun h1 => (gR 8 1 h1 v0).bind fun x2 => (aI h1 x2 6).bind fun x3 => if x3 = 0 then (gR 8 1 h1 v0).bind fun x5 => (aI h1 x5 0).bind fun x6 => if 2 ≤ x6 then b_X8_fewest_32 v0 h1 else (f_X8_all h1 v0).bind fun y8 => some (y8, h1) else b_X8_fewest_32 v0 h1
def f_X8_fewest (h : HP) (v0 : Nat) : Option (Int32 × HP) := (kO 8 h v0).bind fun _ => b_X8_fewest_0 v0 h
theorem w_X8_fewest_32 {l : Launch} {X : SCR} {Q : PST} {bc bs : Nat} {res : Int32 × HP} {h : HP} (hQ : ∀ sz', Q (.inl (some (.int res.1))) res.2 sz') {v0 : Nat} {sz : Nat} (hf : b_X8_fewest_32 v0 h  = some res) : SP l X M_X8_fewest 32 [(0, .ref v0)] [] h sz bc bs Q := by
  rw [b_X8_fewest_32] at hf
  refine sp_aload_n (pc := 32) dX8_fewest_32 0 rfl ?_
  refine sp_iconst (pc := 33) (v := 0) dX8_fewest_33 (by decide) ?_
  refine sp_bipush (pc := 34) (v := 99) dX8_fewest_34 (by decide) ?_
  refine sp_iconst (pc := 36) (v := (-1)) dX8_fewest_36 (by decide) ?_
  obtain ⟨y1, ey1, hf⟩ := ob hf
  obtain ⟨fsy1, hoy1⟩ := o_X8_countSeen ey1
  refine sp_callVi (pc := 37) (z := M_X8_countSeen) (As := [.int 0, .int 99, .int (-1)]) (b := v0) (bc2 := bc) (bs2 := bs) (m_X8_countSeen (Q := _) (fun sz => ⟨y1, rfl, ?_⟩) ey1) rfl dX8_fewest_37 hoy1 rfl rfl ck_X8_fewest_100 (Nat.le_of_ble_eq_true rfl) rfl rfl rfl
  obtain rfl := Option.some.inj hf
  exact sp_ireturn (pc := 40) dX8_fewest_40 rfl rfl (hQ _)

theorem w_X8_fewest_0 {l : Launch} {X : SCR} {Q : PST} {bc bs : Nat} {res : Int32 × HP} {h : HP} (hQ : ∀ sz', Q (.inl (some (.int res.1))) res.2 sz') {v0 : Nat} {sz : Nat} (hf : b_X8_fewest_0 v0 h  = some res) : SP l X M_X8_fewest 0 [(0, .ref v0)] [] h sz bc bs Q := by
  rw [b_X8_fewest_0] at hf
  refine sp_aload_n (pc := 0) dX8_fewest_0 0 rfl ?_
  refine sp_iconst (pc := 1) (v := 0) dX8_fewest_1 (by decide) ?_
  obtain ⟨h1, eh1, hf⟩ := ob hf
  refine sp_pI (pc := 2) pf_RX8_35 dX8_fewest_2 eh1 (fun sz => ?_)
  refine sp_aload_n (pc := 5) dX8_fewest_5 0 rfl ?_
  obtain ⟨x2, ex2, hf⟩ := ob hf
  refine sp_gR (pc := 6) fl_RX8_7 dX8_fewest_6 ex2 ?_
  refine sp_bipush (pc := 9) (v := 6) dX8_fewest_9 (by decide) ?_
  obtain ⟨x3, ex3, hf⟩ := ob hf
  refine sp_aI (pc := 11) dX8_fewest_11 ex3 ?_
  refine sp_if_ne (pc := 12) (tgt := 32) dX8_fewest_12 (by decide) (fun c4 => ?_) (fun c4 => ?_)
  · rw [if_neg c4] at hf
    exact (w_X8_fewest_32 hQ hf)
  · rw [if_pos c4] at hf
    refine sp_aload_n (pc := 15) dX8_fewest_15 0 rfl ?_
    obtain ⟨x5, ex5, hf⟩ := ob hf
    refine sp_gR (pc := 16) fl_RX8_7 dX8_fewest_16 ex5 ?_
    refine sp_iconst (pc := 19) (v := 0) dX8_fewest_19 (by decide) ?_
    obtain ⟨x6, ex6, hf⟩ := ob hf
    refine sp_aI (pc := 20) dX8_fewest_20 ex6 ?_
    refine sp_iconst (pc := 21) (v := 2) dX8_fewest_21 (by decide) ?_
    refine sp_icmp_ge (pc := 22) (tgt := 32) dX8_fewest_22 (by decide) (fun c7 => ?_) (fun c7 => ?_)
    · rw [if_pos c7] at hf
      exact (w_X8_fewest_32 hQ hf)
    · rw [if_neg c7] at hf
      refine sp_aload_n (pc := 25) dX8_fewest_25 0 rfl ?_
      obtain ⟨y8, ey8, hf⟩ := ob hf
      obtain ⟨fsy8, hoy8⟩ := o_X8_all ey8
      refine sp_callVi (pc := 26) (z := M_X8_all) (As := []) (b := v0) (bc2 := bc) (bs2 := bs) (m_X8_all (Q := _) (fun sz => ⟨y8, rfl, ?_⟩) ey8) rfl dX8_fewest_26 hoy8 rfl rfl ck_X8_fewest_54 (Nat.le_of_ble_eq_true rfl) rfl rfl rfl
      refine sp_goto (pc := 29) (tgt := 40) dX8_fewest_29 (by decide) ?_
      obtain rfl := Option.some.inj hf
      exact sp_ireturn (pc := 40) dX8_fewest_40 rfl rfl (hQ _)

theorem o_X8_fewest {h : HP} {v0 : Nat} {res : Int32 × HP} (hf : f_X8_fewest h v0 = some res) : ∃ fs, h v0 = some (.inr (8, fs)) := by
  obtain ⟨u, eu, -⟩ := ob hf
  exact kO_spec eu

theorem m_X8_fewest {l : Launch} {Q : PST} {h : HP} {v0 : Nat} {sz : Nat} {res : Int32 × HP} (hQ : ∀ sz', Q (.inl (some (.int res.1))) res.2 sz') (hf : f_X8_fewest h v0 = some res) : MM l M_X8_fewest [.ref v0] h sz Q := by
  obtain ⟨u, eu, hf⟩ := ob hf
  exact MM_of wok_X8_fewest (by decide +kernel) (Nat.le_of_ble_eq_true rfl) ((w_X8_fewest_0 hQ hf))

theorem dX8_doesWell_0 : decode (mB M_X8_doesWell) 0 = .ok (.iload_n 2, 1) := by decide +kernel
theorem dX8_doesWell_1 : decode (mB M_X8_doesWell) 1 = .ok (.bipush 100, 2) := by decide +kernel
theorem dX8_doesWell_3 : decode (mB M_X8_doesWell) 3 = .ok (.idiv, 1) := by decide +kernel
theorem dX8_doesWell_4 : decode (mB M_X8_doesWell) 4 = .ok (.bipush 100, 2) := by decide +kernel
theorem dX8_doesWell_6 : decode (mB M_X8_doesWell) 6 = .ok (.irem, 1) := by decide +kernel
theorem dX8_doesWell_7 : decode (mB M_X8_doesWell) 7 = .ok (.istore_n 3, 1) := by decide +kernel
theorem dX8_doesWell_8 : decode (mB M_X8_doesWell) 8 = .ok (.iload_n 2, 1) := by decide +kernel
theorem dX8_doesWell_9 : decode (mB M_X8_doesWell) 9 = .ok (.bipush 100, 2) := by decide +kernel
theorem dX8_doesWell_11 : decode (mB M_X8_doesWell) 11 = .ok (.irem, 1) := by decide +kernel
theorem dX8_doesWell_12 : decode (mB M_X8_doesWell) 12 = .ok (.istore 4, 2) := by decide +kernel
theorem dX8_doesWell_14 : decode (mB M_X8_doesWell) 14 = .ok (.iload_n 2, 1) := by decide +kernel
theorem dX8_doesWell_15 : decode (mB M_X8_doesWell) 15 = .ok (.sipush 1000, 3) := by decide +kernel
theorem dX8_doesWell_18 : decode (mB M_X8_doesWell) 18 = .ok (.idiv, 1) := by decide +kernel
theorem dX8_doesWell_19 : decode (mB M_X8_doesWell) 19 = .ok (.bipush 10, 2) := by decide +kernel
theorem dX8_doesWell_21 : decode (mB M_X8_doesWell) 21 = .ok (.irem, 1) := by decide +kernel
theorem dX8_doesWell_22 : decode (mB M_X8_doesWell) 22 = .ok (.istore 5, 2) := by decide +kernel
theorem dX8_doesWell_24 : decode (mB M_X8_doesWell) 24 = .ok (.iload_n 2, 1) := by decide +kernel
theorem dX8_doesWell_25 : decode (mB M_X8_doesWell) 25 = .ok (.sipush 1000, 3) := by decide +kernel
theorem dX8_doesWell_28 : decode (mB M_X8_doesWell) 28 = .ok (.irem, 1) := by decide +kernel
theorem dX8_doesWell_29 : decode (mB M_X8_doesWell) 29 = .ok (.ifCond .ne 7, 3) := by decide +kernel
theorem dX8_doesWell_32 : decode (mB M_X8_doesWell) 32 = .ok (.iconst 1, 1) := by decide +kernel
theorem dX8_doesWell_33 : decode (mB M_X8_doesWell) 33 = .ok (.goto 4, 3) := by decide +kernel
theorem dX8_doesWell_36 : decode (mB M_X8_doesWell) 36 = .ok (.iconst 0, 1) := by decide +kernel
theorem dX8_doesWell_37 : decode (mB M_X8_doesWell) 37 = .ok (.istore 6, 2) := by decide +kernel
theorem dX8_doesWell_39 : decode (mB M_X8_doesWell) 39 = .ok (.iload_n 1, 1) := by decide +kernel
theorem dX8_doesWell_40 : decode (mB M_X8_doesWell) 40 = .ok (.tableswitch 236 1 9 #[52, 61, 70, 92, 111, 133, 152, 178, 197], 52) := by decide +kernel
theorem dX8_doesWell_92 : decode (mB M_X8_doesWell) 92 = .ok (.aload_n 0, 1) := by decide +kernel
theorem dX8_doesWell_93 : decode (mB M_X8_doesWell) 93 = .ok (.bipush 112, 2) := by decide +kernel
theorem dX8_doesWell_95 : decode (mB M_X8_doesWell) 95 = .ok (.putfield 137, 3) := by decide +kernel
theorem dX8_doesWell_98 : decode (mB M_X8_doesWell) 98 = .ok (.goto 180, 3) := by decide +kernel
theorem dX8_doesWell_101 : decode (mB M_X8_doesWell) 101 = .ok (.aload_n 0, 1) := by decide +kernel
theorem dX8_doesWell_102 : decode (mB M_X8_doesWell) 102 = .ok (.bipush 120, 2) := by decide +kernel
theorem dX8_doesWell_104 : decode (mB M_X8_doesWell) 104 = .ok (.putfield 137, 3) := by decide +kernel
theorem dX8_doesWell_107 : decode (mB M_X8_doesWell) 107 = .ok (.goto 171, 3) := by decide +kernel
theorem dX8_doesWell_110 : decode (mB M_X8_doesWell) 110 = .ok (.aload_n 0, 1) := by decide +kernel
theorem dX8_doesWell_111 : decode (mB M_X8_doesWell) 111 = .ok (.iload_n 2, 1) := by decide +kernel
theorem dX8_doesWell_112 : decode (mB M_X8_doesWell) 112 = .ok (.sipush 10000, 3) := by decide +kernel
theorem dX8_doesWell_115 : decode (mB M_X8_doesWell) 115 = .ok (.irem, 1) := by decide +kernel
theorem dX8_doesWell_116 : decode (mB M_X8_doesWell) 116 = .ok (.ifCond .ne 8, 3) := by decide +kernel
theorem dX8_doesWell_119 : decode (mB M_X8_doesWell) 119 = .ok (.bipush 102, 2) := by decide +kernel
theorem dX8_doesWell_121 : decode (mB M_X8_doesWell) 121 = .ok (.goto 5, 3) := by decide +kernel
theorem dX8_doesWell_124 : decode (mB M_X8_doesWell) 124 = .ok (.bipush 63, 2) := by decide +kernel
theorem dX8_doesWell_126 : decode (mB M_X8_doesWell) 126 = .ok (.putfield 137, 3) := by decide +kernel
theorem dX8_doesWell_129 : decode (mB M_X8_doesWell) 129 = .ok (.goto 149, 3) := by decide +kernel
theorem dX8_doesWell_132 : decode (mB M_X8_doesWell) 132 = .ok (.aload_n 0, 1) := by decide +kernel
theorem dX8_doesWell_133 : decode (mB M_X8_doesWell) 133 = .ok (.iload 6, 2) := by decide +kernel
theorem dX8_doesWell_135 : decode (mB M_X8_doesWell) 135 = .ok (.ifCond .eq 8, 3) := by decide +kernel
theorem dX8_doesWell_138 : decode (mB M_X8_doesWell) 138 = .ok (.bipush 109, 2) := by decide +kernel
theorem dX8_doesWell_140 : decode (mB M_X8_doesWell) 140 = .ok (.goto 5, 3) := by decide +kernel
theorem dX8_doesWell_143 : decode (mB M_X8_doesWell) 143 = .ok (.bipush 63, 2) := by decide +kernel
theorem dX8_doesWell_145 : decode (mB M_X8_doesWell) 145 = .ok (.putfield 137, 3) := by decide +kernel
theorem dX8_doesWell_148 : decode (mB M_X8_doesWell) 148 = .ok (.goto 130, 3) := by decide +kernel
theorem dX8_doesWell_151 : decode (mB M_X8_doesWell) 151 = .ok (.aload_n 0, 1) := by decide +kernel
theorem dX8_doesWell_152 : decode (mB M_X8_doesWell) 152 = .ok (.iload_n 2, 1) := by decide +kernel
theorem dX8_doesWell_153 : decode (mB M_X8_doesWell) 153 = .ok (.sipush 10000, 3) := by decide +kernel
theorem dX8_doesWell_156 : decode (mB M_X8_doesWell) 156 = .ok (.irem, 1) := by decide +kernel
theorem dX8_doesWell_157 : decode (mB M_X8_doesWell) 157 = .ok (.ifCond .ne 8, 3) := by decide +kernel
theorem dX8_doesWell_160 : decode (mB M_X8_doesWell) 160 = .ok (.bipush 111, 2) := by decide +kernel
theorem dX8_doesWell_162 : decode (mB M_X8_doesWell) 162 = .ok (.goto 5, 3) := by decide +kernel
theorem dX8_doesWell_165 : decode (mB M_X8_doesWell) 165 = .ok (.bipush 63, 2) := by decide +kernel
theorem dX8_doesWell_167 : decode (mB M_X8_doesWell) 167 = .ok (.putfield 137, 3) := by decide +kernel
theorem dX8_doesWell_170 : decode (mB M_X8_doesWell) 170 = .ok (.goto 108, 3) := by decide +kernel
theorem dX8_doesWell_173 : decode (mB M_X8_doesWell) 173 = .ok (.aload_n 0, 1) := by decide +kernel
theorem dX8_doesWell_174 : decode (mB M_X8_doesWell) 174 = .ok (.iload 6, 2) := by decide +kernel
theorem dX8_doesWell_176 : decode (mB M_X8_doesWell) 176 = .ok (.ifCond .eq 8, 3) := by decide +kernel
theorem dX8_doesWell_179 : decode (mB M_X8_doesWell) 179 = .ok (.bipush 99, 2) := by decide +kernel
theorem dX8_doesWell_181 : decode (mB M_X8_doesWell) 181 = .ok (.goto 5, 3) := by decide +kernel
theorem dX8_doesWell_184 : decode (mB M_X8_doesWell) 184 = .ok (.bipush 63, 2) := by decide +kernel
theorem dX8_doesWell_186 : decode (mB M_X8_doesWell) 186 = .ok (.putfield 137, 3) := by decide +kernel
theorem dX8_doesWell_189 : decode (mB M_X8_doesWell) 189 = .ok (.goto 89, 3) := by decide +kernel
theorem dX8_doesWell_192 : decode (mB M_X8_doesWell) 192 = .ok (.aload_n 0, 1) := by decide +kernel
theorem dX8_doesWell_193 : decode (mB M_X8_doesWell) 193 = .ok (.iload_n 3, 1) := by decide +kernel
theorem dX8_doesWell_194 : decode (mB M_X8_doesWell) 194 = .ok (.iconst (-1), 1) := by decide +kernel
theorem dX8_doesWell_195 : decode (mB M_X8_doesWell) 195 = .ok (.invokevirtual 72, 3) := by decide +kernel
theorem dX8_doesWell_198 : decode (mB M_X8_doesWell) 198 = .ok (.iload 4, 2) := by decide +kernel
theorem dX8_doesWell_200 : decode (mB M_X8_doesWell) 200 = .ok (.ifCond .ne 7, 3) := by decide +kernel
theorem dX8_doesWell_203 : decode (mB M_X8_doesWell) 203 = .ok (.iconst (-1), 1) := by decide +kernel
theorem dX8_doesWell_204 : decode (mB M_X8_doesWell) 204 = .ok (.goto 5, 3) := by decide +kernel
theorem dX8_doesWell_207 : decode (mB M_X8_doesWell) 207 = .ok (.iload 4, 2) := by decide +kernel
theorem dX8_doesWell_209 : decode (mB M_X8_doesWell) 209 = .ok (.if_icmp .ne 7, 3) := by decide +kernel
theorem dX8_doesWell_212 : decode (mB M_X8_doesWell) 212 = .ok (.iconst 1, 1) := by decide +kernel
theorem dX8_doesWell_213 : decode (mB M_X8_doesWell) 213 = .ok (.goto 4, 3) := by decide +kernel
theorem dX8_doesWell_216 : decode (mB M_X8_doesWell) 216 = .ok (.iconst 0, 1) := by decide +kernel
theorem dX8_doesWell_217 : decode (mB M_X8_doesWell) 217 = .ok (.ireturn, 1) := by decide +kernel
theorem dX8_doesWell_218 : decode (mB M_X8_doesWell) 218 = .ok (.iload_n 3, 1) := by decide +kernel
theorem dX8_doesWell_219 : decode (mB M_X8_doesWell) 219 = .ok (.ifCond .ne 16, 3) := by decide +kernel
theorem dX8_doesWell_222 : decode (mB M_X8_doesWell) 222 = .ok (.aload_n 0, 1) := by decide +kernel
theorem dX8_doesWell_223 : decode (mB M_X8_doesWell) 223 = .ok (.invokevirtual 54, 3) := by decide +kernel
theorem dX8_doesWell_226 : decode (mB M_X8_doesWell) 226 = .ok (.iload 4, 2) := by decide +kernel
theorem dX8_doesWell_228 : decode (mB M_X8_doesWell) 228 = .ok (.if_icmp .gt 7, 3) := by decide +kernel
theorem dX8_doesWell_231 : decode (mB M_X8_doesWell) 231 = .ok (.iconst 1, 1) := by decide +kernel
theorem dX8_doesWell_232 : decode (mB M_X8_doesWell) 232 = .ok (.goto 4, 3) := by decide +kernel
theorem dX8_doesWell_235 : decode (mB M_X8_doesWell) 235 = .ok (.iconst 0, 1) := by decide +kernel
theorem dX8_doesWell_236 : decode (mB M_X8_doesWell) 236 = .ok (.ireturn, 1) := by decide +kernel
theorem dX8_doesWell_237 : decode (mB M_X8_doesWell) 237 = .ok (.iload_n 2, 1) := by decide +kernel
theorem dX8_doesWell_238 : decode (mB M_X8_doesWell) 238 = .ok (.bipush 10, 2) := by decide +kernel
theorem dX8_doesWell_240 : decode (mB M_X8_doesWell) 240 = .ok (.irem, 1) := by decide +kernel
theorem dX8_doesWell_241 : decode (mB M_X8_doesWell) 241 = .ok (.ifCond .ne 33, 3) := by decide +kernel
theorem dX8_doesWell_244 : decode (mB M_X8_doesWell) 244 = .ok (.aload_n 0, 1) := by decide +kernel
theorem dX8_doesWell_245 : decode (mB M_X8_doesWell) 245 = .ok (.iload 5, 2) := by decide +kernel
theorem dX8_doesWell_247 : decode (mB M_X8_doesWell) 247 = .ok (.invokevirtual 161, 3) := by decide +kernel
theorem dX8_doesWell_250 : decode (mB M_X8_doesWell) 250 = .ok (.ifCond .eq 24, 3) := by decide +kernel
theorem dX8_doesWell_253 : decode (mB M_X8_doesWell) 253 = .ok (.aload_n 0, 1) := by decide +kernel
theorem dX8_doesWell_254 : decode (mB M_X8_doesWell) 254 = .ok (.iload_n 2, 1) := by decide +kernel
theorem dX8_doesWell_255 : decode (mB M_X8_doesWell) 255 = .ok (.bipush 10, 2) := by decide +kernel
theorem dX8_doesWell_257 : decode (mB M_X8_doesWell) 257 = .ok (.idiv, 1) := by decide +kernel
theorem dX8_doesWell_258 : decode (mB M_X8_doesWell) 258 = .ok (.bipush 100, 2) := by decide +kernel
theorem dX8_doesWell_260 : decode (mB M_X8_doesWell) 260 = .ok (.irem, 1) := by decide +kernel
theorem dX8_doesWell_261 : decode (mB M_X8_doesWell) 261 = .ok (.iload 5, 2) := by decide +kernel
theorem dX8_doesWell_263 : decode (mB M_X8_doesWell) 263 = .ok (.invokevirtual 72, 3) := by decide +kernel
theorem dX8_doesWell_266 : decode (mB M_X8_doesWell) 266 = .ok (.iconst (-1), 1) := by decide +kernel
theorem dX8_doesWell_267 : decode (mB M_X8_doesWell) 267 = .ok (.if_icmp .eq 7, 3) := by decide +kernel
theorem dX8_doesWell_270 : decode (mB M_X8_doesWell) 270 = .ok (.iconst 1, 1) := by decide +kernel
theorem dX8_doesWell_271 : decode (mB M_X8_doesWell) 271 = .ok (.goto 4, 3) := by decide +kernel
theorem dX8_doesWell_274 : decode (mB M_X8_doesWell) 274 = .ok (.iconst 0, 1) := by decide +kernel
theorem dX8_doesWell_275 : decode (mB M_X8_doesWell) 275 = .ok (.ireturn, 1) := by decide +kernel
theorem dX8_doesWell_276 : decode (mB M_X8_doesWell) 276 = .ok (.iconst 0, 1) := by decide +kernel
theorem dX8_doesWell_277 : decode (mB M_X8_doesWell) 277 = .ok (.ireturn, 1) := by decide +kernel
theorem dX8_doesWell_278 : decode (mB M_X8_doesWell) 278 = .ok (.aload_n 0, 1) := by decide +kernel
theorem dX8_doesWell_279 : decode (mB M_X8_doesWell) 279 = .ok (.iload_n 1, 1) := by decide +kernel
theorem dX8_doesWell_280 : decode (mB M_X8_doesWell) 280 = .ok (.iconst 3, 1) := by decide +kernel
theorem dX8_doesWell_281 : decode (mB M_X8_doesWell) 281 = .ok (.if_icmp .ge 7, 3) := by decide +kernel
theorem dX8_doesWell_284 : decode (mB M_X8_doesWell) 284 = .ok (.iload_n 3, 1) := by decide +kernel
theorem dX8_doesWell_285 : decode (mB M_X8_doesWell) 285 = .ok (.goto 5, 3) := by decide +kernel
theorem dX8_doesWell_288 : decode (mB M_X8_doesWell) 288 = .ok (.iload 5, 2) := by decide +kernel
theorem dX8_doesWell_290 : decode (mB M_X8_doesWell) 290 = .ok (.putfield 143, 3) := by decide +kernel
theorem dX8_doesWell_293 : decode (mB M_X8_doesWell) 293 = .ok (.aload_n 0, 1) := by decide +kernel
theorem dX8_doesWell_294 : decode (mB M_X8_doesWell) 294 = .ok (.iload 4, 2) := by decide +kernel
theorem dX8_doesWell_296 : decode (mB M_X8_doesWell) 296 = .ok (.putfield 146, 3) := by decide +kernel
theorem dX8_doesWell_299 : decode (mB M_X8_doesWell) 299 = .ok (.aload_n 0, 1) := by decide +kernel
theorem dX8_doesWell_300 : decode (mB M_X8_doesWell) 300 = .ok (.getfield 137, 3) := by decide +kernel
theorem dX8_doesWell_303 : decode (mB M_X8_doesWell) 303 = .ok (.bipush 63, 2) := by decide +kernel
theorem dX8_doesWell_305 : decode (mB M_X8_doesWell) 305 = .ok (.if_icmp .eq 14, 3) := by decide +kernel
theorem dX8_doesWell_308 : decode (mB M_X8_doesWell) 308 = .ok (.aload_n 0, 1) := by decide +kernel
theorem dX8_doesWell_309 : decode (mB M_X8_doesWell) 309 = .ok (.invokevirtual 182, 3) := by decide +kernel
theorem dX8_doesWell_312 : decode (mB M_X8_doesWell) 312 = .ok (.ifCond .eq 7, 3) := by decide +kernel
theorem dX8_doesWell_315 : decode (mB M_X8_doesWell) 315 = .ok (.iconst 1, 1) := by decide +kernel
theorem dX8_doesWell_316 : decode (mB M_X8_doesWell) 316 = .ok (.goto 4, 3) := by decide +kernel
theorem dX8_doesWell_319 : decode (mB M_X8_doesWell) 319 = .ok (.iconst 0, 1) := by decide +kernel
theorem dX8_doesWell_320 : decode (mB M_X8_doesWell) 320 = .ok (.ireturn, 1) := by decide +kernel
def b_X8_doesWell_290 (v0 : Nat) (h : HP) (v4 : Int32) (s0 : Nat) (s1 : Int32) : Option (Int32 × HP) :=
  (pI 8 15 h s0 s1).bind fun h1 => (pI 8 16 h1 v0 v4).bind fun h2 => (gI 8 14 h2 v0).bind fun x3 => if x3 = 63 then some (0, h2) else (f_X8_does h2 v0).bind fun y5 => if y5.1 = 0 then some (0, y5.2) else some (1, y5.2)
def b_X8_doesWell_278 (v0 : Nat) (v1 : Int32) (h : HP) (v3 : Int32) (v4 : Int32) (v5 : Int32) : Option (Int32 × HP) :=
  if 3 ≤ v1 then b_X8_doesWell_290 v0 h v4 v0 v5 else b_X8_doesWell_290 v0 h v4 v0 v3
def b_X8_doesWell_209 (h : HP) (s0 : Int32) (s1 : Int32) : Option (Int32 × HP) :=
  if s0 = s1 then some (1, h) else some (0, h)
def b_X8_doesWell_186 (v0 : Nat) (v1 : Int32) (h : HP) (v3 : Int32) (v4 : Int32) (v5 : Int32) (s0 : Nat) (s1 : Int32) : Option (Int32 × HP) :=
  (pI 8 14 h s0 s1).bind fun h1 => b_X8_doesWell_278 v0 v1 h1 v3 v4 v5
def b_X8_doesWell_167 (v0 : Nat) (v1 : Int32) (h : HP) (v3 : Int32) (v4 : Int32) (v5 : Int32) (s0 : Nat) (s1 : Int32) : Option (Int32 × HP) :=
  (pI 8 14 h s0 s1).bind fun h1 => b_X8_doesWell_278 v0 v1 h1 v3 v4 v5
def b_X8_doesWell_145 (v0 : Nat) (v1 : Int32) (h : HP) (v3 : Int32) (v4 : Int32) (v5 : Int32) (s0 : Nat) (s1 : Int32) : Option (Int32 × HP) :=
  (pI 8 14 h s0 s1).bind fun h1 => b_X8_doesWell_278 v0 v1 h1 v3 v4 v5
def b_X8_doesWell_126 (v0 : Nat) (v1 : Int32) (h : HP) (v3 : Int32) (v4 : Int32) (v5 : Int32) (s0 : Nat) (s1 : Int32) : Option (Int32 × HP) :=
  (pI 8 14 h s0 s1).bind fun h1 => b_X8_doesWell_278 v0 v1 h1 v3 v4 v5
def b_X8_doesWell_37 (v0 : Nat) (v1 : Int32) (v2 : Int32) (h : HP) (v3 : Int32) (v4 : Int32) (v5 : Int32) (s0 : Int32) : Option (Int32 × HP) :=
  if v1 = 1 then (pI 8 14 h v0 112).bind fun h2 => b_X8_doesWell_278 v0 v1 h2 v3 v4 v5 else if v1 = 2 then (pI 8 14 h v0 120).bind fun h4 => b_X8_doesWell_278 v0 v1 h4 v3 v4 v5 else if v1 = 3 then if (jrem v2 10000) = 0 then b_X8_doesWell_126 v0 v1 h v3 v4 v5 v0 102 else b_X8_doesWell_126 v0 v1 h v3 v4 v5 v0 63 else if v1 = 4 then if s0 = 0 then b_X8_doesWell_145 v0 v1 h v3 v4 v5 v0 63 else b_X8_doesWell_145 v0 v1 h v3 v4 v5 v0 109 else if v1 = 5 then if (jrem v2 10000) = 0 then b_X8_doesWell_167 v0 v1 h v3 v4 v5 v0 111 else b_X8_doesWell_167 v0 v1 h v3 v4 v5 v0 63 else if v1 = 6 then if s0 = 0 then b_X8_doesWell_186 v0 v1 h v3 v4 v5 v0 63 else b_X8_doesWell_186 v0 v1 h v3 v4 v5 v0 99 else if v1 = 7 then (f_X8_seen h v0 v3 (-1)).bind fun y14 => if v4 = 0 then b_X8_doesWell_209 h y14 ((-1)) else b_X8_doesWell_209 h y14 v4 else if v1 = 8 then if v3 = 0 then (f_X8_all h v0).bind fun y18 => if v4 < y18 then some (0, h) else some (1, h) else some (0, h) else if v1 = 9 then if (jrem v2 10) = 0 then (f_X8_isEye h v0 v5).bind fun y22 => if y22 = 0 then some (0, h) else (f_X8_seen h v0 (jrem (v2 / 10) 100) v5).bind fun y24 => if y24 = (-1) then some (0, h) else some (1, h) else some (0, h) else some (0, h)
def b_X8_doesWell_0 (v0 : Nat) (v1 : Int32) (v2 : Int32) (h : HP) : Option (Int32 × HP) :=
  if (jrem v2 1000) = 0 then b_X8_doesWell_37 v0 v1 v2 h (jrem (v2 / 100) 100) (jrem v2 100) (jrem (v2 / 1000) 10) 1 else b_X8_doesWell_37 v0 v1 v2 h (jrem (v2 / 100) 100) (jrem v2 100) (jrem (v2 / 1000) 10) 0
def f_X8_doesWell (h : HP) (v0 : Nat) (v1 : Int32) (v2 : Int32) : Option (Int32 × HP) := (kO 8 h v0).bind fun _ => b_X8_doesWell_0 v0 v1 v2 h
theorem w_X8_doesWell_290 {l : Launch} {X : SCR} {Q : PST} {bc bs : Nat} {res : Int32 × HP} {h : HP} (hQ : ∀ sz', Q (.inl (some (.int res.1))) res.2 sz') {v0 : Nat} {v4 : Int32} {s0 : Nat} {s1 : Int32} {sz : Nat} (hf : b_X8_doesWell_290 v0 h v4 s0 s1 = some res) : SP l X M_X8_doesWell 290 [(0, .ref v0), (4, .int v4)] [.int s1, .ref s0] h sz bc bs Q := by
  rw [b_X8_doesWell_290] at hf
  obtain ⟨h1, eh1, hf⟩ := ob hf
  refine sp_pI (pc := 290) pf_RX8_143 dX8_doesWell_290 eh1 (fun sz => ?_)
  refine sp_aload_n (pc := 293) dX8_doesWell_293 0 rfl ?_
  refine sp_iload (pc := 294) dX8_doesWell_294 1 rfl ?_
  obtain ⟨h2, eh2, hf⟩ := ob hf
  refine sp_pI (pc := 296) pf_RX8_146 dX8_doesWell_296 eh2 (fun sz => ?_)
  refine sp_aload_n (pc := 299) dX8_doesWell_299 0 rfl ?_
  obtain ⟨x3, ex3, hf⟩ := ob hf
  refine sp_gI (pc := 300) fl_RX8_137 dX8_doesWell_300 ex3 ?_
  refine sp_bipush (pc := 303) (v := 63) dX8_doesWell_303 (by decide) ?_
  refine sp_icmp_eq (pc := 305) (tgt := 319) dX8_doesWell_305 (by decide) (fun c4 => ?_) (fun c4 => ?_)
  · rw [if_pos c4] at hf
    refine sp_iconst (pc := 319) (v := 0) dX8_doesWell_319 (by decide) ?_
    obtain rfl := Option.some.inj hf
    exact sp_ireturn (pc := 320) dX8_doesWell_320 rfl rfl (hQ _)
  · rw [if_neg c4] at hf
    refine sp_aload_n (pc := 308) dX8_doesWell_308 0 rfl ?_
    obtain ⟨y5, ey5, hf⟩ := ob hf
    obtain ⟨fsy5, hoy5⟩ := o_X8_does ey5
    refine sp_callVi (pc := 309) (z := M_X8_does) (As := []) (b := v0) (bc2 := bc) (bs2 := bs) (m_X8_does (Q := _) (fun sz => ⟨y5.1, rfl, ?_⟩) ey5) rfl dX8_doesWell_309 hoy5 rfl rfl ck_X8_doesWell_182 (Nat.le_of_ble_eq_true rfl) rfl rfl rfl
    refine sp_if_eq (pc := 312) (tgt := 319) dX8_doesWell_312 (by decide) (fun c6 => ?_) (fun c6 => ?_)
    · rw [if_pos c6] at hf
      refine sp_iconst (pc := 319) (v := 0) dX8_doesWell_319 (by decide) ?_
      obtain rfl := Option.some.inj hf
      exact sp_ireturn (pc := 320) dX8_doesWell_320 rfl rfl (hQ _)
    · rw [if_neg c6] at hf
      refine sp_iconst (pc := 315) (v := 1) dX8_doesWell_315 (by decide) ?_
      refine sp_goto (pc := 316) (tgt := 320) dX8_doesWell_316 (by decide) ?_
      obtain rfl := Option.some.inj hf
      exact sp_ireturn (pc := 320) dX8_doesWell_320 rfl rfl (hQ _)

theorem w_X8_doesWell_278 {l : Launch} {X : SCR} {Q : PST} {bc bs : Nat} {res : Int32 × HP} {h : HP} (hQ : ∀ sz', Q (.inl (some (.int res.1))) res.2 sz') {v0 : Nat} {v1 : Int32} {v3 : Int32} {v4 : Int32} {v5 : Int32} {sz : Nat} (hf : b_X8_doesWell_278 v0 v1 h v3 v4 v5 = some res) : SP l X M_X8_doesWell 278 [(0, .ref v0), (1, .int v1), (3, .int v3), (4, .int v4), (5, .int v5)] [] h sz bc bs Q := by
  rw [b_X8_doesWell_278] at hf
  refine sp_aload_n (pc := 278) dX8_doesWell_278 0 rfl ?_
  refine sp_iload_n (pc := 279) dX8_doesWell_279 1 rfl ?_
  refine sp_iconst (pc := 280) (v := 3) dX8_doesWell_280 (by decide) ?_
  refine sp_icmp_ge (pc := 281) (tgt := 288) dX8_doesWell_281 (by decide) (fun c1 => ?_) (fun c1 => ?_)
  · rw [if_pos c1] at hf
    refine sp_iload (pc := 288) dX8_doesWell_288 4 rfl ?_
    exact sp_sub [0, 3] rfl (w_X8_doesWell_290 hQ hf)
  · rw [if_neg c1] at hf
    refine sp_iload_n (pc := 284) dX8_doesWell_284 2 rfl ?_
    refine sp_goto (pc := 285) (tgt := 290) dX8_doesWell_285 (by decide) ?_
    exact sp_sub [0, 3] rfl (w_X8_doesWell_290 hQ hf)

theorem w_X8_doesWell_209 {l : Launch} {X : SCR} {Q : PST} {bc bs : Nat} {res : Int32 × HP} {h : HP} (hQ : ∀ sz', Q (.inl (some (.int res.1))) res.2 sz') {s0 : Int32} {s1 : Int32} {sz : Nat} (hf : b_X8_doesWell_209 h s0 s1 = some res) : SP l X M_X8_doesWell 209 [] [.int s1, .int s0] h sz bc bs Q := by
  rw [b_X8_doesWell_209] at hf
  refine sp_icmp_ne (pc := 209) (tgt := 216) dX8_doesWell_209 (by decide) (fun c1 => ?_) (fun c1 => ?_)
  · rw [if_neg c1] at hf
    refine sp_iconst (pc := 216) (v := 0) dX8_doesWell_216 (by decide) ?_
    obtain rfl := Option.some.inj hf
    exact sp_ireturn (pc := 217) dX8_doesWell_217 rfl rfl (hQ _)
  · rw [if_pos c1] at hf
    refine sp_iconst (pc := 212) (v := 1) dX8_doesWell_212 (by decide) ?_
    refine sp_goto (pc := 213) (tgt := 217) dX8_doesWell_213 (by decide) ?_
    obtain rfl := Option.some.inj hf
    exact sp_ireturn (pc := 217) dX8_doesWell_217 rfl rfl (hQ _)

theorem w_X8_doesWell_186 {l : Launch} {X : SCR} {Q : PST} {bc bs : Nat} {res : Int32 × HP} {h : HP} (hQ : ∀ sz', Q (.inl (some (.int res.1))) res.2 sz') {v0 : Nat} {v1 : Int32} {v3 : Int32} {v4 : Int32} {v5 : Int32} {s0 : Nat} {s1 : Int32} {sz : Nat} (hf : b_X8_doesWell_186 v0 v1 h v3 v4 v5 s0 s1 = some res) : SP l X M_X8_doesWell 186 [(0, .ref v0), (1, .int v1), (3, .int v3), (4, .int v4), (5, .int v5)] [.int s1, .ref s0] h sz bc bs Q := by
  rw [b_X8_doesWell_186] at hf
  obtain ⟨h1, eh1, hf⟩ := ob hf
  refine sp_pI (pc := 186) pf_RX8_137 dX8_doesWell_186 eh1 (fun sz => ?_)
  refine sp_goto (pc := 189) (tgt := 278) dX8_doesWell_189 (by decide) ?_
  exact (w_X8_doesWell_278 hQ hf)

theorem w_X8_doesWell_167 {l : Launch} {X : SCR} {Q : PST} {bc bs : Nat} {res : Int32 × HP} {h : HP} (hQ : ∀ sz', Q (.inl (some (.int res.1))) res.2 sz') {v0 : Nat} {v1 : Int32} {v3 : Int32} {v4 : Int32} {v5 : Int32} {s0 : Nat} {s1 : Int32} {sz : Nat} (hf : b_X8_doesWell_167 v0 v1 h v3 v4 v5 s0 s1 = some res) : SP l X M_X8_doesWell 167 [(0, .ref v0), (1, .int v1), (3, .int v3), (4, .int v4), (5, .int v5)] [.int s1, .ref s0] h sz bc bs Q := by
  rw [b_X8_doesWell_167] at hf
  obtain ⟨h1, eh1, hf⟩ := ob hf
  refine sp_pI (pc := 167) pf_RX8_137 dX8_doesWell_167 eh1 (fun sz => ?_)
  refine sp_goto (pc := 170) (tgt := 278) dX8_doesWell_170 (by decide) ?_
  exact (w_X8_doesWell_278 hQ hf)

theorem w_X8_doesWell_145 {l : Launch} {X : SCR} {Q : PST} {bc bs : Nat} {res : Int32 × HP} {h : HP} (hQ : ∀ sz', Q (.inl (some (.int res.1))) res.2 sz') {v0 : Nat} {v1 : Int32} {v3 : Int32} {v4 : Int32} {v5 : Int32} {s0 : Nat} {s1 : Int32} {sz : Nat} (hf : b_X8_doesWell_145 v0 v1 h v3 v4 v5 s0 s1 = some res) : SP l X M_X8_doesWell 145 [(0, .ref v0), (1, .int v1), (3, .int v3), (4, .int v4), (5, .int v5)] [.int s1, .ref s0] h sz bc bs Q := by
  rw [b_X8_doesWell_145] at hf
  obtain ⟨h1, eh1, hf⟩ := ob hf
  refine sp_pI (pc := 145) pf_RX8_137 dX8_doesWell_145 eh1 (fun sz => ?_)
  refine sp_goto (pc := 148) (tgt := 278) dX8_doesWell_148 (by decide) ?_
  exact (w_X8_doesWell_278 hQ hf)

theorem w_X8_doesWell_126 {l : Launch} {X : SCR} {Q : PST} {bc bs : Nat} {res : Int32 × HP} {h : HP} (hQ : ∀ sz', Q (.inl (some (.int res.1))) res.2 sz') {v0 : Nat} {v1 : Int32} {v3 : Int32} {v4 : Int32} {v5 : Int32} {s0 : Nat} {s1 : Int32} {sz : Nat} (hf : b_X8_doesWell_126 v0 v1 h v3 v4 v5 s0 s1 = some res) : SP l X M_X8_doesWell 126 [(0, .ref v0), (1, .int v1), (3, .int v3), (4, .int v4), (5, .int v5)] [.int s1, .ref s0] h sz bc bs Q := by
  rw [b_X8_doesWell_126] at hf
  obtain ⟨h1, eh1, hf⟩ := ob hf
  refine sp_pI (pc := 126) pf_RX8_137 dX8_doesWell_126 eh1 (fun sz => ?_)
  refine sp_goto (pc := 129) (tgt := 278) dX8_doesWell_129 (by decide) ?_
  exact (w_X8_doesWell_278 hQ hf)

theorem w_X8_doesWell_37 {l : Launch} {X : SCR} {Q : PST} {bc bs : Nat} {res : Int32 × HP} {h : HP} (hQ : ∀ sz', Q (.inl (some (.int res.1))) res.2 sz') {v0 : Nat} {v1 : Int32} {v2 : Int32} {v3 : Int32} {v4 : Int32} {v5 : Int32} {s0 : Int32} {sz : Nat} (hf : b_X8_doesWell_37 v0 v1 v2 h v3 v4 v5 s0 = some res) : SP l X M_X8_doesWell 37 [(0, .ref v0), (1, .int v1), (2, .int v2), (3, .int v3), (4, .int v4), (5, .int v5)] [.int s0] h sz bc bs Q := by
  rw [b_X8_doesWell_37] at hf
  refine sp_istore (pc := 37) (lv' := [(6, .int s0), (0, .ref v0), (1, .int v1), (2, .int v2), (3, .int v3), (4, .int v4), (5, .int v5)]) dX8_doesWell_37 (by decide) rfl ?_
  refine sp_iload_n (pc := 39) dX8_doesWell_39 2 rfl ?_
  by_cases c1 : v1 = 1
  · rw [if_pos c1] at hf
    refine sp_tableIn (pc := 40) (off := 52) (tgt := 92) dX8_doesWell_40 (by rw [c1]; decide) (by rw [c1]; decide) (by rw [c1]; rfl) (by decide) ?_
    refine sp_aload_n (pc := 92) dX8_doesWell_92 1 rfl ?_
    refine sp_bipush (pc := 93) (v := 112) dX8_doesWell_93 (by decide) ?_
    obtain ⟨h2, eh2, hf⟩ := ob hf
    refine sp_pI (pc := 95) pf_RX8_137 dX8_doesWell_95 eh2 (fun sz => ?_)
    refine sp_goto (pc := 98) (tgt := 278) dX8_doesWell_98 (by decide) ?_
    exact sp_sub [1, 2, 4, 5, 6] rfl (w_X8_doesWell_278 hQ hf)
  rw [if_neg c1] at hf
  by_cases c3 : v1 = 2
  · rw [if_pos c3] at hf
    refine sp_tableIn (pc := 40) (off := 61) (tgt := 101) dX8_doesWell_40 (by rw [c3]; decide) (by rw [c3]; decide) (by rw [c3]; rfl) (by decide) ?_
    refine sp_aload_n (pc := 101) dX8_doesWell_101 1 rfl ?_
    refine sp_bipush (pc := 102) (v := 120) dX8_doesWell_102 (by decide) ?_
    obtain ⟨h4, eh4, hf⟩ := ob hf
    refine sp_pI (pc := 104) pf_RX8_137 dX8_doesWell_104 eh4 (fun sz => ?_)
    refine sp_goto (pc := 107) (tgt := 278) dX8_doesWell_107 (by decide) ?_
    exact sp_sub [1, 2, 4, 5, 6] rfl (w_X8_doesWell_278 hQ hf)
  rw [if_neg c3] at hf
  by_cases c5 : v1 = 3
  · rw [if_pos c5] at hf
    refine sp_tableIn (pc := 40) (off := 70) (tgt := 110) dX8_doesWell_40 (by rw [c5]; decide) (by rw [c5]; decide) (by rw [c5]; rfl) (by decide) ?_
    refine sp_aload_n (pc := 110) dX8_doesWell_110 1 rfl ?_
    refine sp_iload_n (pc := 111) dX8_doesWell_111 3 rfl ?_
    refine sp_sipush (pc := 112) (v := 10000) dX8_doesWell_112 (by decide) ?_
    refine sp_iremJ (pc := 115) dX8_doesWell_115 (by decide) ?_
    refine sp_if_ne (pc := 116) (tgt := 124) dX8_doesWell_116 (by decide) (fun c6 => ?_) (fun c6 => ?_)
    · rw [if_neg c6] at hf
      refine sp_bipush (pc := 124) (v := 63) dX8_doesWell_124 (by decide) ?_
      exact sp_sub [1, 2, 4, 5, 6] rfl (w_X8_doesWell_126 hQ hf)
    · rw [if_pos c6] at hf
      refine sp_bipush (pc := 119) (v := 102) dX8_doesWell_119 (by decide) ?_
      refine sp_goto (pc := 121) (tgt := 126) dX8_doesWell_121 (by decide) ?_
      exact sp_sub [1, 2, 4, 5, 6] rfl (w_X8_doesWell_126 hQ hf)
  rw [if_neg c5] at hf
  by_cases c7 : v1 = 4
  · rw [if_pos c7] at hf
    refine sp_tableIn (pc := 40) (off := 92) (tgt := 132) dX8_doesWell_40 (by rw [c7]; decide) (by rw [c7]; decide) (by rw [c7]; rfl) (by decide) ?_
    refine sp_aload_n (pc := 132) dX8_doesWell_132 1 rfl ?_
    refine sp_iload (pc := 133) dX8_doesWell_133 0 rfl ?_
    refine sp_if_eq (pc := 135) (tgt := 143) dX8_doesWell_135 (by decide) (fun c8 => ?_) (fun c8 => ?_)
    · rw [if_pos c8] at hf
      refine sp_bipush (pc := 143) (v := 63) dX8_doesWell_143 (by decide) ?_
      exact sp_sub [1, 2, 4, 5, 6] rfl (w_X8_doesWell_145 hQ hf)
    · rw [if_neg c8] at hf
      refine sp_bipush (pc := 138) (v := 109) dX8_doesWell_138 (by decide) ?_
      refine sp_goto (pc := 140) (tgt := 145) dX8_doesWell_140 (by decide) ?_
      exact sp_sub [1, 2, 4, 5, 6] rfl (w_X8_doesWell_145 hQ hf)
  rw [if_neg c7] at hf
  by_cases c9 : v1 = 5
  · rw [if_pos c9] at hf
    refine sp_tableIn (pc := 40) (off := 111) (tgt := 151) dX8_doesWell_40 (by rw [c9]; decide) (by rw [c9]; decide) (by rw [c9]; rfl) (by decide) ?_
    refine sp_aload_n (pc := 151) dX8_doesWell_151 1 rfl ?_
    refine sp_iload_n (pc := 152) dX8_doesWell_152 3 rfl ?_
    refine sp_sipush (pc := 153) (v := 10000) dX8_doesWell_153 (by decide) ?_
    refine sp_iremJ (pc := 156) dX8_doesWell_156 (by decide) ?_
    refine sp_if_ne (pc := 157) (tgt := 165) dX8_doesWell_157 (by decide) (fun c10 => ?_) (fun c10 => ?_)
    · rw [if_neg c10] at hf
      refine sp_bipush (pc := 165) (v := 63) dX8_doesWell_165 (by decide) ?_
      exact sp_sub [1, 2, 4, 5, 6] rfl (w_X8_doesWell_167 hQ hf)
    · rw [if_pos c10] at hf
      refine sp_bipush (pc := 160) (v := 111) dX8_doesWell_160 (by decide) ?_
      refine sp_goto (pc := 162) (tgt := 167) dX8_doesWell_162 (by decide) ?_
      exact sp_sub [1, 2, 4, 5, 6] rfl (w_X8_doesWell_167 hQ hf)
  rw [if_neg c9] at hf
  by_cases c11 : v1 = 6
  · rw [if_pos c11] at hf
    refine sp_tableIn (pc := 40) (off := 133) (tgt := 173) dX8_doesWell_40 (by rw [c11]; decide) (by rw [c11]; decide) (by rw [c11]; rfl) (by decide) ?_
    refine sp_aload_n (pc := 173) dX8_doesWell_173 1 rfl ?_
    refine sp_iload (pc := 174) dX8_doesWell_174 0 rfl ?_
    refine sp_if_eq (pc := 176) (tgt := 184) dX8_doesWell_176 (by decide) (fun c12 => ?_) (fun c12 => ?_)
    · rw [if_pos c12] at hf
      refine sp_bipush (pc := 184) (v := 63) dX8_doesWell_184 (by decide) ?_
      exact sp_sub [1, 2, 4, 5, 6] rfl (w_X8_doesWell_186 hQ hf)
    · rw [if_neg c12] at hf
      refine sp_bipush (pc := 179) (v := 99) dX8_doesWell_179 (by decide) ?_
      refine sp_goto (pc := 181) (tgt := 186) dX8_doesWell_181 (by decide) ?_
      exact sp_sub [1, 2, 4, 5, 6] rfl (w_X8_doesWell_186 hQ hf)
  rw [if_neg c11] at hf
  by_cases c13 : v1 = 7
  · rw [if_pos c13] at hf
    refine sp_tableIn (pc := 40) (off := 152) (tgt := 192) dX8_doesWell_40 (by rw [c13]; decide) (by rw [c13]; decide) (by rw [c13]; rfl) (by decide) ?_
    refine sp_aload_n (pc := 192) dX8_doesWell_192 1 rfl ?_
    refine sp_iload_n (pc := 193) dX8_doesWell_193 4 rfl ?_
    refine sp_iconst (pc := 194) (v := (-1)) dX8_doesWell_194 (by decide) ?_
    obtain ⟨y14, ey14, hf⟩ := ob hf
    obtain ⟨fsy14, hoy14⟩ := o_X8_seen ey14
    refine sp_callVi (pc := 195) (z := M_X8_seen) (As := [.int v3, .int (-1)]) (b := v0) (bc2 := bc) (bs2 := bs) (m_X8_seen (Q := _) (fun sz => ⟨y14, rfl, ?_⟩) ey14) rfl dX8_doesWell_195 hoy14 rfl rfl ck_X8_doesWell_72 (Nat.le_of_ble_eq_true rfl) rfl rfl rfl
    refine sp_iload (pc := 198) dX8_doesWell_198 5 rfl ?_
    refine sp_if_ne (pc := 200) (tgt := 207) dX8_doesWell_200 (by decide) (fun c15 => ?_) (fun c15 => ?_)
    · rw [if_neg c15] at hf
      refine sp_iload (pc := 207) dX8_doesWell_207 5 rfl ?_
      exact sp_sub [] rfl (w_X8_doesWell_209 hQ hf)
    · rw [if_pos c15] at hf
      refine sp_iconst (pc := 203) (v := (-1)) dX8_doesWell_203 (by decide) ?_
      refine sp_goto (pc := 204) (tgt := 209) dX8_doesWell_204 (by decide) ?_
      exact sp_sub [] rfl (w_X8_doesWell_209 hQ hf)
  rw [if_neg c13] at hf
  by_cases c16 : v1 = 8
  · rw [if_pos c16] at hf
    refine sp_tableIn (pc := 40) (off := 178) (tgt := 218) dX8_doesWell_40 (by rw [c16]; decide) (by rw [c16]; decide) (by rw [c16]; rfl) (by decide) ?_
    refine sp_iload_n (pc := 218) dX8_doesWell_218 4 rfl ?_
    refine sp_if_ne (pc := 219) (tgt := 235) dX8_doesWell_219 (by decide) (fun c17 => ?_) (fun c17 => ?_)
    · rw [if_neg c17] at hf
      refine sp_iconst (pc := 235) (v := 0) dX8_doesWell_235 (by decide) ?_
      obtain rfl := Option.some.inj hf
      exact sp_ireturn (pc := 236) dX8_doesWell_236 rfl rfl (hQ _)
    · rw [if_pos c17] at hf
      refine sp_aload_n (pc := 222) dX8_doesWell_222 1 rfl ?_
      obtain ⟨y18, ey18, hf⟩ := ob hf
      obtain ⟨fsy18, hoy18⟩ := o_X8_all ey18
      refine sp_callVi (pc := 223) (z := M_X8_all) (As := []) (b := v0) (bc2 := bc) (bs2 := bs) (m_X8_all (Q := _) (fun sz => ⟨y18, rfl, ?_⟩) ey18) rfl dX8_doesWell_223 hoy18 rfl rfl ck_X8_doesWell_54 (Nat.le_of_ble_eq_true rfl) rfl rfl rfl
      refine sp_iload (pc := 226) dX8_doesWell_226 5 rfl ?_
      refine sp_icmp_gt (pc := 228) (tgt := 235) dX8_doesWell_228 (by decide) (fun c19 => ?_) (fun c19 => ?_)
      · rw [if_pos c19] at hf
        refine sp_iconst (pc := 235) (v := 0) dX8_doesWell_235 (by decide) ?_
        obtain rfl := Option.some.inj hf
        exact sp_ireturn (pc := 236) dX8_doesWell_236 rfl rfl (hQ _)
      · rw [if_neg c19] at hf
        refine sp_iconst (pc := 231) (v := 1) dX8_doesWell_231 (by decide) ?_
        refine sp_goto (pc := 232) (tgt := 236) dX8_doesWell_232 (by decide) ?_
        obtain rfl := Option.some.inj hf
        exact sp_ireturn (pc := 236) dX8_doesWell_236 rfl rfl (hQ _)
  rw [if_neg c16] at hf
  by_cases c20 : v1 = 9
  · rw [if_pos c20] at hf
    refine sp_tableIn (pc := 40) (off := 197) (tgt := 237) dX8_doesWell_40 (by rw [c20]; decide) (by rw [c20]; decide) (by rw [c20]; rfl) (by decide) ?_
    refine sp_iload_n (pc := 237) dX8_doesWell_237 3 rfl ?_
    refine sp_bipush (pc := 238) (v := 10) dX8_doesWell_238 (by decide) ?_
    refine sp_iremJ (pc := 240) dX8_doesWell_240 (by decide) ?_
    refine sp_if_ne (pc := 241) (tgt := 274) dX8_doesWell_241 (by decide) (fun c21 => ?_) (fun c21 => ?_)
    · rw [if_neg c21] at hf
      refine sp_iconst (pc := 274) (v := 0) dX8_doesWell_274 (by decide) ?_
      obtain rfl := Option.some.inj hf
      exact sp_ireturn (pc := 275) dX8_doesWell_275 rfl rfl (hQ _)
    · rw [if_pos c21] at hf
      refine sp_aload_n (pc := 244) dX8_doesWell_244 1 rfl ?_
      refine sp_iload (pc := 245) dX8_doesWell_245 6 rfl ?_
      obtain ⟨y22, ey22, hf⟩ := ob hf
      obtain ⟨fsy22, hoy22⟩ := o_X8_isEye ey22
      refine sp_callVi (pc := 247) (z := M_X8_isEye) (As := [.int v5]) (b := v0) (bc2 := bc) (bs2 := bs) (m_X8_isEye (Q := _) (fun sz => ⟨y22, rfl, ?_⟩) ey22) rfl dX8_doesWell_247 hoy22 rfl rfl ck_X8_doesWell_161 (Nat.le_of_ble_eq_true rfl) rfl rfl rfl
      refine sp_if_eq (pc := 250) (tgt := 274) dX8_doesWell_250 (by decide) (fun c23 => ?_) (fun c23 => ?_)
      · rw [if_pos c23] at hf
        refine sp_iconst (pc := 274) (v := 0) dX8_doesWell_274 (by decide) ?_
        obtain rfl := Option.some.inj hf
        exact sp_ireturn (pc := 275) dX8_doesWell_275 rfl rfl (hQ _)
      · rw [if_neg c23] at hf
        refine sp_aload_n (pc := 253) dX8_doesWell_253 1 rfl ?_
        refine sp_iload_n (pc := 254) dX8_doesWell_254 3 rfl ?_
        refine sp_bipush (pc := 255) (v := 10) dX8_doesWell_255 (by decide) ?_
        refine sp_idiv (pc := 257) dX8_doesWell_257 (by decide) ?_
        refine sp_bipush (pc := 258) (v := 100) dX8_doesWell_258 (by decide) ?_
        refine sp_iremJ (pc := 260) dX8_doesWell_260 (by decide) ?_
        refine sp_iload (pc := 261) dX8_doesWell_261 6 rfl ?_
        obtain ⟨y24, ey24, hf⟩ := ob hf
        obtain ⟨fsy24, hoy24⟩ := o_X8_seen ey24
        refine sp_callVi (pc := 263) (z := M_X8_seen) (As := [.int (jrem (v2 / 10) 100), .int v5]) (b := v0) (bc2 := bc) (bs2 := bs) (m_X8_seen (Q := _) (fun sz => ⟨y24, rfl, ?_⟩) ey24) rfl dX8_doesWell_263 hoy24 rfl rfl ck_X8_doesWell_72 (Nat.le_of_ble_eq_true rfl) rfl rfl rfl
        refine sp_iconst (pc := 266) (v := (-1)) dX8_doesWell_266 (by decide) ?_
        refine sp_icmp_eq (pc := 267) (tgt := 274) dX8_doesWell_267 (by decide) (fun c25 => ?_) (fun c25 => ?_)
        · rw [if_pos c25] at hf
          refine sp_iconst (pc := 274) (v := 0) dX8_doesWell_274 (by decide) ?_
          obtain rfl := Option.some.inj hf
          exact sp_ireturn (pc := 275) dX8_doesWell_275 rfl rfl (hQ _)
        · rw [if_neg c25] at hf
          refine sp_iconst (pc := 270) (v := 1) dX8_doesWell_270 (by decide) ?_
          refine sp_goto (pc := 271) (tgt := 275) dX8_doesWell_271 (by decide) ?_
          obtain rfl := Option.some.inj hf
          exact sp_ireturn (pc := 275) dX8_doesWell_275 rfl rfl (hQ _)
  rw [if_neg c20] at hf
  refine sp_tableOut (pc := 40) (tgt := 276) dX8_doesWell_40 (tbl_out (fun i h1 h2 he => ?_)) (by decide) ?_
  · rcases (show i = 1 ∨ i = 2 ∨ i = 3 ∨ i = 4 ∨ i = 5 ∨ i = 6 ∨ i = 7 ∨ i = 8 ∨ i = 9 by omega) with rfl | rfl | rfl | rfl | rfl | rfl | rfl | rfl | rfl
    · exact c1 (Int32.toInt_inj.mp (he.trans (by decide)))
    · exact c3 (Int32.toInt_inj.mp (he.trans (by decide)))
    · exact c5 (Int32.toInt_inj.mp (he.trans (by decide)))
    · exact c7 (Int32.toInt_inj.mp (he.trans (by decide)))
    · exact c9 (Int32.toInt_inj.mp (he.trans (by decide)))
    · exact c11 (Int32.toInt_inj.mp (he.trans (by decide)))
    · exact c13 (Int32.toInt_inj.mp (he.trans (by decide)))
    · exact c16 (Int32.toInt_inj.mp (he.trans (by decide)))
    · exact c20 (Int32.toInt_inj.mp (he.trans (by decide)))
  refine sp_iconst (pc := 276) (v := 0) dX8_doesWell_276 (by decide) ?_
  obtain rfl := Option.some.inj hf
  exact sp_ireturn (pc := 277) dX8_doesWell_277 rfl rfl (hQ _)

theorem w_X8_doesWell_0 {l : Launch} {X : SCR} {Q : PST} {bc bs : Nat} {res : Int32 × HP} {h : HP} (hQ : ∀ sz', Q (.inl (some (.int res.1))) res.2 sz') {v0 : Nat} {v1 : Int32} {v2 : Int32} {sz : Nat} (hf : b_X8_doesWell_0 v0 v1 v2 h  = some res) : SP l X M_X8_doesWell 0 [(0, .ref v0), (1, .int v1), (2, .int v2)] [] h sz bc bs Q := by
  rw [b_X8_doesWell_0] at hf
  refine sp_iload_n (pc := 0) dX8_doesWell_0 2 rfl ?_
  refine sp_bipush (pc := 1) (v := 100) dX8_doesWell_1 (by decide) ?_
  refine sp_idiv (pc := 3) dX8_doesWell_3 (by decide) ?_
  refine sp_bipush (pc := 4) (v := 100) dX8_doesWell_4 (by decide) ?_
  refine sp_iremJ (pc := 6) dX8_doesWell_6 (by decide) ?_
  refine sp_istore_n (pc := 7) (lv' := [(3, .int (jrem (v2 / 100) 100)), (0, .ref v0), (1, .int v1), (2, .int v2)]) dX8_doesWell_7 (by decide) rfl ?_
  refine sp_iload_n (pc := 8) dX8_doesWell_8 3 rfl ?_
  refine sp_bipush (pc := 9) (v := 100) dX8_doesWell_9 (by decide) ?_
  refine sp_iremJ (pc := 11) dX8_doesWell_11 (by decide) ?_
  refine sp_istore (pc := 12) (lv' := [(4, .int (jrem v2 100)), (3, .int (jrem (v2 / 100) 100)), (0, .ref v0), (1, .int v1), (2, .int v2)]) dX8_doesWell_12 (by decide) rfl ?_
  refine sp_iload_n (pc := 14) dX8_doesWell_14 4 rfl ?_
  refine sp_sipush (pc := 15) (v := 1000) dX8_doesWell_15 (by decide) ?_
  refine sp_idiv (pc := 18) dX8_doesWell_18 (by decide) ?_
  refine sp_bipush (pc := 19) (v := 10) dX8_doesWell_19 (by decide) ?_
  refine sp_iremJ (pc := 21) dX8_doesWell_21 (by decide) ?_
  refine sp_istore (pc := 22) (lv' := [(5, .int (jrem (v2 / 1000) 10)), (4, .int (jrem v2 100)), (3, .int (jrem (v2 / 100) 100)), (0, .ref v0), (1, .int v1), (2, .int v2)]) dX8_doesWell_22 (by decide) rfl ?_
  refine sp_iload_n (pc := 24) dX8_doesWell_24 5 rfl ?_
  refine sp_sipush (pc := 25) (v := 1000) dX8_doesWell_25 (by decide) ?_
  refine sp_iremJ (pc := 28) dX8_doesWell_28 (by decide) ?_
  refine sp_if_ne (pc := 29) (tgt := 36) dX8_doesWell_29 (by decide) (fun c1 => ?_) (fun c1 => ?_)
  · rw [if_neg c1] at hf
    refine sp_iconst (pc := 36) (v := 0) dX8_doesWell_36 (by decide) ?_
    exact sp_sub [3, 4, 5, 2, 1, 0] rfl (w_X8_doesWell_37 hQ hf)
  · rw [if_pos c1] at hf
    refine sp_iconst (pc := 32) (v := 1) dX8_doesWell_32 (by decide) ?_
    refine sp_goto (pc := 33) (tgt := 37) dX8_doesWell_33 (by decide) ?_
    exact sp_sub [3, 4, 5, 2, 1, 0] rfl (w_X8_doesWell_37 hQ hf)

theorem o_X8_doesWell {h : HP} {v0 : Nat} {v1 : Int32} {v2 : Int32} {res : Int32 × HP} (hf : f_X8_doesWell h v0 v1 v2 = some res) : ∃ fs, h v0 = some (.inr (8, fs)) := by
  obtain ⟨u, eu, -⟩ := ob hf
  exact kO_spec eu

theorem m_X8_doesWell {l : Launch} {Q : PST} {h : HP} {v0 : Nat} {v1 : Int32} {v2 : Int32} {sz : Nat} {res : Int32 × HP} (hQ : ∀ sz', Q (.inl (some (.int res.1))) res.2 sz') (hf : f_X8_doesWell h v0 v1 v2 = some res) : MM l M_X8_doesWell [.ref v0, .int v1, .int v2] h sz Q := by
  obtain ⟨u, eu, hf⟩ := ob hf
  exact MM_of wok_X8_doesWell (by decide +kernel) (Nat.le_of_ble_eq_true rfl) ((w_X8_doesWell_0 hQ hf))

theorem dX8_ran_0 : decode (mB M_X8_ran) 0 = .ok (.lload_n 2, 1) := by decide +kernel
theorem dX8_ran_1 : decode (mB M_X8_ran) 1 = .ok (.lstore 4, 2) := by decide +kernel
theorem dX8_ran_3 : decode (mB M_X8_ran) 3 = .ok (.iload_n 1, 1) := by decide +kernel
theorem dX8_ran_4 : decode (mB M_X8_ran) 4 = .ok (.iconst 3, 1) := by decide +kernel
theorem dX8_ran_5 : decode (mB M_X8_ran) 5 = .ok (.if_icmp .ne 9, 3) := by decide +kernel
theorem dX8_ran_8 : decode (mB M_X8_ran) 8 = .ok (.ldc2_w 230, 3) := by decide +kernel
theorem dX8_ran_11 : decode (mB M_X8_ran) 11 = .ok (.goto 15, 3) := by decide +kernel
theorem dX8_ran_14 : decode (mB M_X8_ran) 14 = .ok (.iload_n 1, 1) := by decide +kernel
theorem dX8_ran_15 : decode (mB M_X8_ran) 15 = .ok (.iconst 2, 1) := by decide +kernel
theorem dX8_ran_16 : decode (mB M_X8_ran) 16 = .ok (.if_icmp .ne 9, 3) := by decide +kernel
theorem dX8_ran_19 : decode (mB M_X8_ran) 19 = .ok (.ldc2_w 232, 3) := by decide +kernel
theorem dX8_ran_22 : decode (mB M_X8_ran) 22 = .ok (.goto 4, 3) := by decide +kernel
theorem dX8_ran_25 : decode (mB M_X8_ran) 25 = .ok (.lconst 1, 1) := by decide +kernel
theorem dX8_ran_26 : decode (mB M_X8_ran) 26 = .ok (.lstore 6, 2) := by decide +kernel
theorem dX8_ran_28 : decode (mB M_X8_ran) 28 = .ok (.iconst (-1), 1) := by decide +kernel
theorem dX8_ran_29 : decode (mB M_X8_ran) 29 = .ok (.istore 8, 2) := by decide +kernel
theorem dX8_ran_31 : decode (mB M_X8_ran) 31 = .ok (.aload_n 0, 1) := by decide +kernel
theorem dX8_ran_32 : decode (mB M_X8_ran) 32 = .ok (.invokevirtual 234, 3) := by decide +kernel
theorem dX8_ran_35 : decode (mB M_X8_ran) 35 = .ok (.iconst 0, 1) := by decide +kernel
theorem dX8_ran_36 : decode (mB M_X8_ran) 36 = .ok (.istore 9, 2) := by decide +kernel
theorem dX8_ran_38 : decode (mB M_X8_ran) 38 = .ok (.iload 9, 2) := by decide +kernel
theorem dX8_ran_40 : decode (mB M_X8_ran) 40 = .ok (.iload_n 1, 1) := by decide +kernel
theorem dX8_ran_41 : decode (mB M_X8_ran) 41 = .ok (.if_icmp .ge 58, 3) := by decide +kernel
theorem dX8_ran_44 : decode (mB M_X8_ran) 44 = .ok (.iload 8, 2) := by decide +kernel
theorem dX8_ran_46 : decode (mB M_X8_ran) 46 = .ok (.iconst (-1), 1) := by decide +kernel
theorem dX8_ran_47 : decode (mB M_X8_ran) 47 = .ok (.if_icmp .ne 52, 3) := by decide +kernel
theorem dX8_ran_50 : decode (mB M_X8_ran) 50 = .ok (.lload 4, 2) := by decide +kernel
theorem dX8_ran_52 : decode (mB M_X8_ran) 52 = .ok (.lload 6, 2) := by decide +kernel
theorem dX8_ran_54 : decode (mB M_X8_ran) 54 = .ok (.ldiv, 1) := by decide +kernel
theorem dX8_ran_55 : decode (mB M_X8_ran) 55 = .ok (.ldc2_w 232, 3) := by decide +kernel
theorem dX8_ran_58 : decode (mB M_X8_ran) 58 = .ok (.lrem, 1) := by decide +kernel
theorem dX8_ran_59 : decode (mB M_X8_ran) 59 = .ok (.l2i, 1) := by decide +kernel
theorem dX8_ran_60 : decode (mB M_X8_ran) 60 = .ok (.istore 10, 2) := by decide +kernel
theorem dX8_ran_62 : decode (mB M_X8_ran) 62 = .ok (.aload_n 0, 1) := by decide +kernel
theorem dX8_ran_63 : decode (mB M_X8_ran) 63 = .ok (.iload 10, 2) := by decide +kernel
theorem dX8_ran_65 : decode (mB M_X8_ran) 65 = .ok (.sipush 10000, 3) := by decide +kernel
theorem dX8_ran_68 : decode (mB M_X8_ran) 68 = .ok (.idiv, 1) := by decide +kernel
theorem dX8_ran_69 : decode (mB M_X8_ran) 69 = .ok (.iload 10, 2) := by decide +kernel
theorem dX8_ran_71 : decode (mB M_X8_ran) 71 = .ok (.invokevirtual 237, 3) := by decide +kernel
theorem dX8_ran_74 : decode (mB M_X8_ran) 74 = .ok (.ifCond .eq 7, 3) := by decide +kernel
theorem dX8_ran_77 : decode (mB M_X8_ran) 77 = .ok (.iconst (-1), 1) := by decide +kernel
theorem dX8_ran_78 : decode (mB M_X8_ran) 78 = .ok (.goto 5, 3) := by decide +kernel
theorem dX8_ran_81 : decode (mB M_X8_ran) 81 = .ok (.iload 9, 2) := by decide +kernel
theorem dX8_ran_83 : decode (mB M_X8_ran) 83 = .ok (.istore 8, 2) := by decide +kernel
theorem dX8_ran_85 : decode (mB M_X8_ran) 85 = .ok (.lload 6, 2) := by decide +kernel
theorem dX8_ran_87 : decode (mB M_X8_ran) 87 = .ok (.ldc2_w 232, 3) := by decide +kernel
theorem dX8_ran_90 : decode (mB M_X8_ran) 90 = .ok (.ldiv, 1) := by decide +kernel
theorem dX8_ran_91 : decode (mB M_X8_ran) 91 = .ok (.lstore 6, 2) := by decide +kernel
theorem dX8_ran_93 : decode (mB M_X8_ran) 93 = .ok (.iinc 9 1, 3) := by decide +kernel
theorem dX8_ran_96 : decode (mB M_X8_ran) 96 = .ok (.goto (-58), 3) := by decide +kernel
theorem dX8_ran_99 : decode (mB M_X8_ran) 99 = .ok (.aload_n 0, 1) := by decide +kernel
theorem dX8_ran_100 : decode (mB M_X8_ran) 100 = .ok (.invokevirtual 240, 3) := by decide +kernel
theorem dX8_ran_103 : decode (mB M_X8_ran) 103 = .ok (.iload 8, 2) := by decide +kernel
theorem dX8_ran_105 : decode (mB M_X8_ran) 105 = .ok (.ireturn, 1) := by decide +kernel
def b_X8_ran_99 (v0 : Nat) (h : HP) (v8 : Int32) : Option (Int32 × HP) :=
  (f_X8_putBack h v0).bind fun y1 => some (v8, y1)
def b_X8_ran_83 (v0 : Nat) (v1 : Int32) (k38 : HP → Int64 → Int64 → Int32 → Int32 → Option (Int32 × HP)) (h : HP) (v4 : Int64) (v6 : Int64) (v9 : Int32) (s0 : Int32) : Option (Int32 × HP) :=
  k38 h v4 (v6 / 100000) s0 (v9 + 1)
def c_X8_ran_38 (v0 : Nat) (v1 : Int32) (k38 : HP → Int64 → Int64 → Int32 → Int32 → Option (Int32 × HP)) (h : HP) (v4 : Int64) (v6 : Int64) (v8 : Int32) (v9 : Int32) : Option (Int32 × HP) :=
  if v1 ≤ v9 then b_X8_ran_99 v0 h v8 else if v8 = (-1) then if v6 = 0 then none else (f_X8_doesWell h v0 ((Int64.toInt32 (jlrem (v4 / v6) 100000)) / 10000) (Int64.toInt32 (jlrem (v4 / v6) 100000))).bind fun y4 => if y4.1 = 0 then b_X8_ran_83 v0 v1 k38 y4.2 v4 v6 v9 v9 else b_X8_ran_83 v0 v1 k38 y4.2 v4 v6 v9 ((-1)) else b_X8_ran_99 v0 h v8
def b_X8_ran_38 (v0 : Nat) (v1 : Int32) : Nat → HP → Int64 → Int64 → Int32 → Int32 → Option (Int32 × HP)
  | 0, _, _, _, _, _ => none
  | n + 1, h, v4, v6, v8, v9 => c_X8_ran_38 v0 v1 (b_X8_ran_38 v0 v1 n) h v4 v6 v8 v9
def b_X8_ran_26 (v0 : Nat) (v1 : Int32) (h : HP) (v4 : Int64) (s0 : Int64) : Option (Int32 × HP) :=
  (f_X8_putAside h v0).bind fun y1 => b_X8_ran_38 v0 v1 FU y1 v4 s0 ((-1)) 0
def b_X8_ran_0 (v0 : Nat) (v1 : Int32) (v2 : Int64) (h : HP) : Option (Int32 × HP) :=
  if v1 = 3 then b_X8_ran_26 v0 v1 h v2 10000000000 else if v1 = 2 then b_X8_ran_26 v0 v1 h v2 100000 else b_X8_ran_26 v0 v1 h v2 1
def f_X8_ran (h : HP) (v0 : Nat) (v1 : Int32) (v2 : Int64) : Option (Int32 × HP) := (kO 8 h v0).bind fun _ => b_X8_ran_0 v0 v1 v2 h
theorem w_X8_ran_99 {l : Launch} {X : SCR} {Q : PST} {bc bs : Nat} {res : Int32 × HP} {h : HP} (hQ : ∀ sz', Q (.inl (some (.int res.1))) res.2 sz') {v0 : Nat} {v8 : Int32} {sz : Nat} (hf : b_X8_ran_99 v0 h v8 = some res) : SP l X M_X8_ran 99 [(0, .ref v0), (8, .int v8)] [] h sz bc bs Q := by
  rw [b_X8_ran_99] at hf
  refine sp_aload_n (pc := 99) dX8_ran_99 0 rfl ?_
  obtain ⟨y1, ey1, hf⟩ := ob hf
  obtain ⟨fsy1, hoy1⟩ := o_X8_putBack ey1
  refine sp_callVv (pc := 100) (z := M_X8_putBack) (As := []) (b := v0) (bc2 := bc) (bs2 := bs) (m_X8_putBack (Q := _) (fun sz => ⟨(), rfl, ?_⟩) ey1) rfl dX8_ran_100 hoy1 rfl rfl ck_X8_ran_240 (Nat.le_of_ble_eq_true rfl) rfl rfl rfl
  refine sp_iload (pc := 103) dX8_ran_103 1 rfl ?_
  obtain rfl := Option.some.inj hf
  exact sp_ireturn (pc := 105) dX8_ran_105 rfl rfl (hQ _)

theorem w_X8_ran_83 {l : Launch} {X : SCR} {Q : PST} {bc bs : Nat} {res : Int32 × HP} {h : HP} (hQ : ∀ sz', Q (.inl (some (.int res.1))) res.2 sz') {v0 : Nat} {v1 : Int32} {k38 : HP → Int64 → Int64 → Int32 → Int32 → Option (Int32 × HP)} (hk38 : ∀ (h : HP) (v4 : Int64) (v6 : Int64) (v8 : Int32) (v9 : Int32) (sz : Nat), k38 h v4 v6 v8 v9 = some res → SP l X M_X8_ran 38 [(0, .ref v0), (1, .int v1), (4, .long v4), (6, .long v6), (8, .int v8), (9, .int v9)] [] h sz bc bs Q) {v4 : Int64} {v6 : Int64} {v9 : Int32} {s0 : Int32} {sz : Nat} (hf : b_X8_ran_83 v0 v1 k38 h v4 v6 v9 s0 = some res) : SP l X M_X8_ran 83 [(0, .ref v0), (1, .int v1), (4, .long v4), (6, .long v6), (9, .int v9)] [.int s0] h sz bc bs Q := by
  rw [b_X8_ran_83] at hf
  refine sp_istore (pc := 83) (lv' := [(8, .int s0), (0, .ref v0), (1, .int v1), (4, .long v4), (6, .long v6), (9, .int v9)]) dX8_ran_83 (by decide) rfl ?_
  refine sp_lload (pc := 85) dX8_ran_85 4 rfl ?_
  refine sp_ldc2 (pc := 87) dX8_ran_87 bk_1326 ?_
  refine sp_ldiv (pc := 90) dX8_ran_90 (by decide) ?_
  refine sp_lstore (pc := 91) (lv' := [(6, .long (v6 / 100000)), (8, .int s0), (0, .ref v0), (1, .int v1), (4, .long v4), (9, .int v9)]) dX8_ran_91 (by decide) rfl ?_
  refine sp_iinc (pc := 93) (v := v9 + 1) (lv' := [(9, .int (v9 + 1)), (6, .long (v6 / 100000)), (8, .int s0), (0, .ref v0), (1, .int v1), (4, .long v4)]) dX8_ran_93 5 rfl rfl (by decide) rfl ?_
  refine sp_goto (pc := 96) (tgt := 38) dX8_ran_96 (by decide) ?_
  exact sp_sub [3, 4, 5, 1, 2, 0] rfl (hk38 _ _ _ _ _ _ hf)

theorem wc_X8_ran_38 {l : Launch} {X : SCR} {Q : PST} {bc bs : Nat} {res : Int32 × HP} (hQ : ∀ sz', Q (.inl (some (.int res.1))) res.2 sz') {v0 : Nat} {v1 : Int32} {k38 : HP → Int64 → Int64 → Int32 → Int32 → Option (Int32 × HP)} (hk38 : ∀ (h : HP) (v4 : Int64) (v6 : Int64) (v8 : Int32) (v9 : Int32) (sz : Nat), k38 h v4 v6 v8 v9 = some res → SP l X M_X8_ran 38 [(0, .ref v0), (1, .int v1), (4, .long v4), (6, .long v6), (8, .int v8), (9, .int v9)] [] h sz bc bs Q) {h : HP} {v4 : Int64} {v6 : Int64} {v8 : Int32} {v9 : Int32} {sz : Nat} (hf : c_X8_ran_38 v0 v1 k38 h v4 v6 v8 v9 = some res) : SP l X M_X8_ran 38 [(0, .ref v0), (1, .int v1), (4, .long v4), (6, .long v6), (8, .int v8), (9, .int v9)] [] h sz bc bs Q := by
  rw [c_X8_ran_38] at hf
  refine sp_iload (pc := 38) dX8_ran_38 5 rfl ?_
  refine sp_iload_n (pc := 40) dX8_ran_40 1 rfl ?_
  refine sp_icmp_ge (pc := 41) (tgt := 99) dX8_ran_41 (by decide) (fun c1 => ?_) (fun c1 => ?_)
  · rw [if_pos c1] at hf
    exact sp_sub [0, 4] rfl (w_X8_ran_99 hQ hf)
  · rw [if_neg c1] at hf
    refine sp_iload (pc := 44) dX8_ran_44 4 rfl ?_
    refine sp_iconst (pc := 46) (v := (-1)) dX8_ran_46 (by decide) ?_
    refine sp_icmp_ne (pc := 47) (tgt := 99) dX8_ran_47 (by decide) (fun c2 => ?_) (fun c2 => ?_)
    · rw [if_neg c2] at hf
      exact sp_sub [0, 4] rfl (w_X8_ran_99 hQ hf)
    · rw [if_pos c2] at hf
      refine sp_lload (pc := 50) dX8_ran_50 2 rfl ?_
      refine sp_lload (pc := 52) dX8_ran_52 3 rfl ?_
      by_cases z3 : v6 = 0
      · rw [if_pos z3] at hf; cases hf
      rw [if_neg z3] at hf
      refine sp_ldiv (pc := 54) dX8_ran_54 z3 ?_
      refine sp_ldc2 (pc := 55) dX8_ran_55 bk_1326 ?_
      refine sp_lremJ (pc := 58) dX8_ran_58 (by decide) ?_
      refine sp_l2i (pc := 59) dX8_ran_59 ?_
      refine sp_istore (pc := 60) (lv' := [(10, .int (Int64.toInt32 (jlrem (v4 / v6) 100000))), (0, .ref v0), (1, .int v1), (4, .long v4), (6, .long v6), (8, .int v8), (9, .int v9)]) dX8_ran_60 (by decide) rfl ?_
      refine sp_aload_n (pc := 62) dX8_ran_62 1 rfl ?_
      refine sp_iload (pc := 63) dX8_ran_63 0 rfl ?_
      refine sp_sipush (pc := 65) (v := 10000) dX8_ran_65 (by decide) ?_
      refine sp_idiv (pc := 68) dX8_ran_68 (by decide) ?_
      refine sp_iload (pc := 69) dX8_ran_69 0 rfl ?_
      obtain ⟨y4, ey4, hf⟩ := ob hf
      obtain ⟨fsy4, hoy4⟩ := o_X8_doesWell ey4
      refine sp_callVi (pc := 71) (z := M_X8_doesWell) (As := [.int ((Int64.toInt32 (jlrem (v4 / v6) 100000)) / 10000), .int (Int64.toInt32 (jlrem (v4 / v6) 100000))]) (b := v0) (bc2 := bc) (bs2 := bs) (m_X8_doesWell (Q := _) (fun sz => ⟨y4.1, rfl, ?_⟩) ey4) rfl dX8_ran_71 hoy4 rfl rfl ck_X8_ran_237 (Nat.le_of_ble_eq_true rfl) rfl rfl rfl
      refine sp_if_eq (pc := 74) (tgt := 81) dX8_ran_74 (by decide) (fun c5 => ?_) (fun c5 => ?_)
      · rw [if_pos c5] at hf
        refine sp_iload (pc := 81) dX8_ran_81 6 rfl ?_
        exact sp_sub [1, 2, 3, 4, 6] rfl (w_X8_ran_83 hQ hk38 hf)
      · rw [if_neg c5] at hf
        refine sp_iconst (pc := 77) (v := (-1)) dX8_ran_77 (by decide) ?_
        refine sp_goto (pc := 78) (tgt := 83) dX8_ran_78 (by decide) ?_
        exact sp_sub [1, 2, 3, 4, 6] rfl (w_X8_ran_83 hQ hk38 hf)

theorem w_X8_ran_38 {l : Launch} {X : SCR} {Q : PST} {bc bs : Nat} {res : Int32 × HP} (hQ : ∀ sz', Q (.inl (some (.int res.1))) res.2 sz') {v0 : Nat} {v1 : Int32} : ∀ (n : Nat) {h : HP} {v4 : Int64} {v6 : Int64} {v8 : Int32} {v9 : Int32} {sz : Nat}, b_X8_ran_38 v0 v1 n h v4 v6 v8 v9 = some res → SP l X M_X8_ran 38 [(0, .ref v0), (1, .int v1), (4, .long v4), (6, .long v6), (8, .int v8), (9, .int v9)] [] h sz bc bs Q := by
  intro n
  induction n with
  | zero =>
    intro h v4 v6 v8 v9 sz hf
    rw [b_X8_ran_38] at hf
    cases hf
  | succ n ih =>
    intro h v4 v6 v8 v9 sz hf
    rw [b_X8_ran_38] at hf
    exact wc_X8_ran_38 hQ (fun h v4 v6 v8 v9 sz hf => ih hf) hf

theorem w_X8_ran_26 {l : Launch} {X : SCR} {Q : PST} {bc bs : Nat} {res : Int32 × HP} {h : HP} (hQ : ∀ sz', Q (.inl (some (.int res.1))) res.2 sz') {v0 : Nat} {v1 : Int32} {v4 : Int64} {s0 : Int64} {sz : Nat} (hf : b_X8_ran_26 v0 v1 h v4 s0 = some res) : SP l X M_X8_ran 26 [(0, .ref v0), (1, .int v1), (4, .long v4)] [.long s0] h sz bc bs Q := by
  rw [b_X8_ran_26] at hf
  refine sp_lstore (pc := 26) (lv' := [(6, .long s0), (0, .ref v0), (1, .int v1), (4, .long v4)]) dX8_ran_26 (by decide) rfl ?_
  refine sp_iconst (pc := 28) (v := (-1)) dX8_ran_28 (by decide) ?_
  refine sp_istore (pc := 29) (lv' := [(8, .int (-1)), (6, .long s0), (0, .ref v0), (1, .int v1), (4, .long v4)]) dX8_ran_29 (by decide) rfl ?_
  refine sp_aload_n (pc := 31) dX8_ran_31 2 rfl ?_
  obtain ⟨y1, ey1, hf⟩ := ob hf
  obtain ⟨fsy1, hoy1⟩ := o_X8_putAside ey1
  refine sp_callVv (pc := 32) (z := M_X8_putAside) (As := []) (b := v0) (bc2 := bc) (bs2 := bs) (m_X8_putAside (Q := _) (fun sz => ⟨(), rfl, ?_⟩) ey1) rfl dX8_ran_32 hoy1 rfl rfl ck_X8_ran_234 (Nat.le_of_ble_eq_true rfl) rfl rfl rfl
  refine sp_iconst (pc := 35) (v := 0) dX8_ran_35 (by decide) ?_
  refine sp_istore (pc := 36) (lv' := [(9, .int 0), (8, .int (-1)), (6, .long s0), (0, .ref v0), (1, .int v1), (4, .long v4)]) dX8_ran_36 (by decide) rfl ?_
  exact sp_sub [3, 4, 5, 2, 1, 0] rfl (w_X8_ran_38 hQ FU hf)

theorem w_X8_ran_0 {l : Launch} {X : SCR} {Q : PST} {bc bs : Nat} {res : Int32 × HP} {h : HP} (hQ : ∀ sz', Q (.inl (some (.int res.1))) res.2 sz') {v0 : Nat} {v1 : Int32} {v2 : Int64} {sz : Nat} (hf : b_X8_ran_0 v0 v1 v2 h  = some res) : SP l X M_X8_ran 0 [(0, .ref v0), (1, .int v1), (2, .long v2)] [] h sz bc bs Q := by
  rw [b_X8_ran_0] at hf
  refine sp_lload_n (pc := 0) dX8_ran_0 2 rfl ?_
  refine sp_lstore (pc := 1) (lv' := [(4, .long v2), (0, .ref v0), (1, .int v1), (2, .long v2)]) dX8_ran_1 (by decide) rfl ?_
  refine sp_iload_n (pc := 3) dX8_ran_3 2 rfl ?_
  refine sp_iconst (pc := 4) (v := 3) dX8_ran_4 (by decide) ?_
  refine sp_icmp_ne (pc := 5) (tgt := 14) dX8_ran_5 (by decide) (fun c1 => ?_) (fun c1 => ?_)
  · rw [if_neg c1] at hf
    refine sp_iload_n (pc := 14) dX8_ran_14 2 rfl ?_
    refine sp_iconst (pc := 15) (v := 2) dX8_ran_15 (by decide) ?_
    refine sp_icmp_ne (pc := 16) (tgt := 25) dX8_ran_16 (by decide) (fun c2 => ?_) (fun c2 => ?_)
    · rw [if_neg c2] at hf
      refine sp_lconst (pc := 25) (v := 1) dX8_ran_25 (by decide) ?_
      exact sp_sub [1, 2, 0] rfl (w_X8_ran_26 hQ hf)
    · rw [if_pos c2] at hf
      refine sp_ldc2 (pc := 19) dX8_ran_19 bk_1326 ?_
      refine sp_goto (pc := 22) (tgt := 26) dX8_ran_22 (by decide) ?_
      exact sp_sub [1, 2, 0] rfl (w_X8_ran_26 hQ hf)
  · rw [if_pos c1] at hf
    refine sp_ldc2 (pc := 8) dX8_ran_8 bk_1325 ?_
    refine sp_goto (pc := 11) (tgt := 26) dX8_ran_11 (by decide) ?_
    exact sp_sub [1, 2, 0] rfl (w_X8_ran_26 hQ hf)

theorem o_X8_ran {h : HP} {v0 : Nat} {v1 : Int32} {v2 : Int64} {res : Int32 × HP} (hf : f_X8_ran h v0 v1 v2 = some res) : ∃ fs, h v0 = some (.inr (8, fs)) := by
  obtain ⟨u, eu, -⟩ := ob hf
  exact kO_spec eu

theorem m_X8_ran {l : Launch} {Q : PST} {h : HP} {v0 : Nat} {v1 : Int32} {v2 : Int64} {sz : Nat} {res : Int32 × HP} (hQ : ∀ sz', Q (.inl (some (.int res.1))) res.2 sz') (hf : f_X8_ran h v0 v1 v2 = some res) : MM l M_X8_ran [.ref v0, .int v1, .long v2] h sz Q := by
  obtain ⟨u, eu, hf⟩ := ob hf
  exact MM_of wok_X8_ran (by decide +kernel) (Nat.le_of_ble_eq_true rfl) ((w_X8_ran_0 hQ hf))

theorem dX8_runScript_0 : decode (mB M_X8_runScript) 0 = .ok (.iload_n 1, 1) := by decide +kernel
theorem dX8_runScript_1 : decode (mB M_X8_runScript) 1 = .ok (.iconst 3, 1) := by decide +kernel
theorem dX8_runScript_2 : decode (mB M_X8_runScript) 2 = .ok (.if_icmp .ne 9, 3) := by decide +kernel
theorem dX8_runScript_5 : decode (mB M_X8_runScript) 5 = .ok (.ldc2_w 243, 3) := by decide +kernel
theorem dX8_runScript_8 : decode (mB M_X8_runScript) 8 = .ok (.goto 17, 3) := by decide +kernel
theorem dX8_runScript_11 : decode (mB M_X8_runScript) 11 = .ok (.iload_n 1, 1) := by decide +kernel
theorem dX8_runScript_12 : decode (mB M_X8_runScript) 12 = .ok (.iconst 2, 1) := by decide +kernel
theorem dX8_runScript_13 : decode (mB M_X8_runScript) 13 = .ok (.if_icmp .ne 9, 3) := by decide +kernel
theorem dX8_runScript_16 : decode (mB M_X8_runScript) 16 = .ok (.ldc2_w 245, 3) := by decide +kernel
theorem dX8_runScript_19 : decode (mB M_X8_runScript) 19 = .ok (.goto 6, 3) := by decide +kernel
theorem dX8_runScript_22 : decode (mB M_X8_runScript) 22 = .ok (.ldc2_w 247, 3) := by decide +kernel
theorem dX8_runScript_25 : decode (mB M_X8_runScript) 25 = .ok (.lstore 4, 2) := by decide +kernel
theorem dX8_runScript_27 : decode (mB M_X8_runScript) 27 = .ok (.aload_n 0, 1) := by decide +kernel
theorem dX8_runScript_28 : decode (mB M_X8_runScript) 28 = .ok (.iload_n 1, 1) := by decide +kernel
theorem dX8_runScript_29 : decode (mB M_X8_runScript) 29 = .ok (.iconst 1, 1) := by decide +kernel
theorem dX8_runScript_30 : decode (mB M_X8_runScript) 30 = .ok (.iconst 3, 1) := by decide +kernel
theorem dX8_runScript_31 : decode (mB M_X8_runScript) 31 = .ok (.invokestatic 39, 3) := by decide +kernel
theorem dX8_runScript_34 : decode (mB M_X8_runScript) 34 = .ok (.ifCond .eq 16, 3) := by decide +kernel
theorem dX8_runScript_37 : decode (mB M_X8_runScript) 37 = .ok (.lload_n 2, 1) := by decide +kernel
theorem dX8_runScript_38 : decode (mB M_X8_runScript) 38 = .ok (.lconst 0, 1) := by decide +kernel
theorem dX8_runScript_39 : decode (mB M_X8_runScript) 39 = .ok (.lcmp, 1) := by decide +kernel
theorem dX8_runScript_40 : decode (mB M_X8_runScript) 40 = .ok (.ifCond .lt 10, 3) := by decide +kernel
theorem dX8_runScript_43 : decode (mB M_X8_runScript) 43 = .ok (.lload_n 2, 1) := by decide +kernel
theorem dX8_runScript_44 : decode (mB M_X8_runScript) 44 = .ok (.lload 4, 2) := by decide +kernel
theorem dX8_runScript_46 : decode (mB M_X8_runScript) 46 = .ok (.lcmp, 1) := by decide +kernel
theorem dX8_runScript_47 : decode (mB M_X8_runScript) 47 = .ok (.ifCond .le 7, 3) := by decide +kernel
theorem dX8_runScript_50 : decode (mB M_X8_runScript) 50 = .ok (.iconst 1, 1) := by decide +kernel
theorem dX8_runScript_51 : decode (mB M_X8_runScript) 51 = .ok (.goto 4, 3) := by decide +kernel
theorem dX8_runScript_54 : decode (mB M_X8_runScript) 54 = .ok (.iconst 0, 1) := by decide +kernel
theorem dX8_runScript_55 : decode (mB M_X8_runScript) 55 = .ok (.invokevirtual 124, 3) := by decide +kernel
theorem dX8_runScript_58 : decode (mB M_X8_runScript) 58 = .ok (.ifCond .eq 12, 3) := by decide +kernel
theorem dX8_runScript_61 : decode (mB M_X8_runScript) 61 = .ok (.aload_n 0, 1) := by decide +kernel
theorem dX8_runScript_62 : decode (mB M_X8_runScript) 62 = .ok (.iload_n 1, 1) := by decide +kernel
theorem dX8_runScript_63 : decode (mB M_X8_runScript) 63 = .ok (.lload_n 2, 1) := by decide +kernel
theorem dX8_runScript_64 : decode (mB M_X8_runScript) 64 = .ok (.invokevirtual 249, 3) := by decide +kernel
theorem dX8_runScript_67 : decode (mB M_X8_runScript) 67 = .ok (.goto 4, 3) := by decide +kernel
theorem dX8_runScript_70 : decode (mB M_X8_runScript) 70 = .ok (.iconst 0, 1) := by decide +kernel
theorem dX8_runScript_71 : decode (mB M_X8_runScript) 71 = .ok (.ireturn, 1) := by decide +kernel
def b_X8_runScript_55 (v0 : Nat) (v1 : Int32) (v2 : Int64) (h : HP) (s0 : Nat) (s1 : Int32) : Option (Int32 × HP) :=
  (f_X8_holds h s0 s1).bind fun y1 => if y1.1 = 0 then some (0, y1.2) else (f_X8_ran y1.2 v0 v1 v2).bind fun y3 => some (y3.1, y3.2)
def b_X8_runScript_25 (v0 : Nat) (v1 : Int32) (v2 : Int64) (h : HP) (s0 : Int64) : Option (Int32 × HP) :=
  (f_X8_in h v1 1 3).bind fun y1 => if y1 = 0 then b_X8_runScript_55 v0 v1 v2 h v0 1 else if (lg_cmp v2 0) < 0 then b_X8_runScript_55 v0 v1 v2 h v0 1 else if (lg_cmp v2 s0) ≤ 0 then b_X8_runScript_55 v0 v1 v2 h v0 0 else b_X8_runScript_55 v0 v1 v2 h v0 1
def b_X8_runScript_0 (v0 : Nat) (v1 : Int32) (v2 : Int64) (h : HP) : Option (Int32 × HP) :=
  if v1 = 3 then b_X8_runScript_25 v0 v1 v2 h 999999999999999 else if v1 = 2 then b_X8_runScript_25 v0 v1 v2 h 9999999999 else b_X8_runScript_25 v0 v1 v2 h 99999
def f_X8_runScript (h : HP) (v0 : Nat) (v1 : Int32) (v2 : Int64) : Option (Int32 × HP) := (kO 8 h v0).bind fun _ => b_X8_runScript_0 v0 v1 v2 h
theorem w_X8_runScript_55 {l : Launch} {X : SCR} {Q : PST} {bc bs : Nat} {res : Int32 × HP} {h : HP} (hQ : ∀ sz', Q (.inl (some (.int res.1))) res.2 sz') {v0 : Nat} {v1 : Int32} {v2 : Int64} {s0 : Nat} {s1 : Int32} {sz : Nat} (hf : b_X8_runScript_55 v0 v1 v2 h s0 s1 = some res) : SP l X M_X8_runScript 55 [(0, .ref v0), (1, .int v1), (2, .long v2)] [.int s1, .ref s0] h sz bc bs Q := by
  rw [b_X8_runScript_55] at hf
  obtain ⟨y1, ey1, hf⟩ := ob hf
  obtain ⟨fsy1, hoy1⟩ := o_X8_holds ey1
  refine sp_callVi (pc := 55) (z := M_X8_holds) (As := [.int s1]) (b := s0) (bc2 := bc) (bs2 := bs) (m_X8_holds (Q := _) (fun sz => ⟨y1.1, rfl, ?_⟩) ey1) rfl dX8_runScript_55 hoy1 rfl rfl ck_X8_runScript_124 (Nat.le_of_ble_eq_true rfl) rfl rfl rfl
  refine sp_if_eq (pc := 58) (tgt := 70) dX8_runScript_58 (by decide) (fun c2 => ?_) (fun c2 => ?_)
  · rw [if_pos c2] at hf
    refine sp_iconst (pc := 70) (v := 0) dX8_runScript_70 (by decide) ?_
    obtain rfl := Option.some.inj hf
    exact sp_ireturn (pc := 71) dX8_runScript_71 rfl rfl (hQ _)
  · rw [if_neg c2] at hf
    refine sp_aload_n (pc := 61) dX8_runScript_61 0 rfl ?_
    refine sp_iload_n (pc := 62) dX8_runScript_62 1 rfl ?_
    refine sp_lload_n (pc := 63) dX8_runScript_63 2 rfl ?_
    obtain ⟨y3, ey3, hf⟩ := ob hf
    obtain ⟨fsy3, hoy3⟩ := o_X8_ran ey3
    refine sp_callVi (pc := 64) (z := M_X8_ran) (As := [.int v1, .long v2]) (b := v0) (bc2 := bc) (bs2 := bs) (m_X8_ran (Q := _) (fun sz => ⟨y3.1, rfl, ?_⟩) ey3) rfl dX8_runScript_64 hoy3 rfl rfl ck_X8_runScript_249 (Nat.le_of_ble_eq_true rfl) rfl rfl rfl
    refine sp_goto (pc := 67) (tgt := 71) dX8_runScript_67 (by decide) ?_
    obtain rfl := Option.some.inj hf
    exact sp_ireturn (pc := 71) dX8_runScript_71 rfl rfl (hQ _)

theorem w_X8_runScript_25 {l : Launch} {X : SCR} {Q : PST} {bc bs : Nat} {res : Int32 × HP} {h : HP} (hQ : ∀ sz', Q (.inl (some (.int res.1))) res.2 sz') {v0 : Nat} {v1 : Int32} {v2 : Int64} {s0 : Int64} {sz : Nat} (hf : b_X8_runScript_25 v0 v1 v2 h s0 = some res) : SP l X M_X8_runScript 25 [(0, .ref v0), (1, .int v1), (2, .long v2)] [.long s0] h sz bc bs Q := by
  rw [b_X8_runScript_25] at hf
  refine sp_lstore (pc := 25) (lv' := [(4, .long s0), (0, .ref v0), (1, .int v1), (2, .long v2)]) dX8_runScript_25 (by decide) rfl ?_
  refine sp_aload_n (pc := 27) dX8_runScript_27 1 rfl ?_
  refine sp_iload_n (pc := 28) dX8_runScript_28 2 rfl ?_
  refine sp_iconst (pc := 29) (v := 1) dX8_runScript_29 (by decide) ?_
  refine sp_iconst (pc := 30) (v := 3) dX8_runScript_30 (by decide) ?_
  obtain ⟨y1, ey1, hf⟩ := ob hf
  refine sp_callSi (pc := 31) (z := M_X8_in) (As := [.int v1, .int 1, .int 3]) (bc2 := bc) (bs2 := bs) (m_X8_in (Q := _) (fun sz => ⟨y1, rfl, ?_⟩) ey1) rfl dX8_runScript_31 rfl ck_X8_runScript_39 (Nat.le_of_ble_eq_true rfl) rfl rfl rfl
  refine sp_if_eq (pc := 34) (tgt := 50) dX8_runScript_34 (by decide) (fun c2 => ?_) (fun c2 => ?_)
  · rw [if_pos c2] at hf
    refine sp_iconst (pc := 50) (v := 1) dX8_runScript_50 (by decide) ?_
    refine sp_goto (pc := 51) (tgt := 55) dX8_runScript_51 (by decide) ?_
    exact sp_sub [1, 2, 3] rfl (w_X8_runScript_55 hQ hf)
  · rw [if_neg c2] at hf
    refine sp_lload_n (pc := 37) dX8_runScript_37 3 rfl ?_
    refine sp_lconst (pc := 38) (v := 0) dX8_runScript_38 (by decide) ?_
    refine sp_lcmp (pc := 39) dX8_runScript_39 ?_
    refine sp_if_lt (pc := 40) (tgt := 50) dX8_runScript_40 (by decide) (fun c3 => ?_) (fun c3 => ?_)
    · rw [if_pos c3] at hf
      refine sp_iconst (pc := 50) (v := 1) dX8_runScript_50 (by decide) ?_
      refine sp_goto (pc := 51) (tgt := 55) dX8_runScript_51 (by decide) ?_
      exact sp_sub [1, 2, 3] rfl (w_X8_runScript_55 hQ hf)
    · rw [if_neg c3] at hf
      refine sp_lload_n (pc := 43) dX8_runScript_43 3 rfl ?_
      refine sp_lload (pc := 44) dX8_runScript_44 0 rfl ?_
      refine sp_lcmp (pc := 46) dX8_runScript_46 ?_
      refine sp_if_le (pc := 47) (tgt := 54) dX8_runScript_47 (by decide) (fun c4 => ?_) (fun c4 => ?_)
      · rw [if_pos c4] at hf
        refine sp_iconst (pc := 54) (v := 0) dX8_runScript_54 (by decide) ?_
        exact sp_sub [1, 2, 3] rfl (w_X8_runScript_55 hQ hf)
      · rw [if_neg c4] at hf
        refine sp_iconst (pc := 50) (v := 1) dX8_runScript_50 (by decide) ?_
        refine sp_goto (pc := 51) (tgt := 55) dX8_runScript_51 (by decide) ?_
        exact sp_sub [1, 2, 3] rfl (w_X8_runScript_55 hQ hf)

theorem w_X8_runScript_0 {l : Launch} {X : SCR} {Q : PST} {bc bs : Nat} {res : Int32 × HP} {h : HP} (hQ : ∀ sz', Q (.inl (some (.int res.1))) res.2 sz') {v0 : Nat} {v1 : Int32} {v2 : Int64} {sz : Nat} (hf : b_X8_runScript_0 v0 v1 v2 h  = some res) : SP l X M_X8_runScript 0 [(0, .ref v0), (1, .int v1), (2, .long v2)] [] h sz bc bs Q := by
  rw [b_X8_runScript_0] at hf
  refine sp_iload_n (pc := 0) dX8_runScript_0 1 rfl ?_
  refine sp_iconst (pc := 1) (v := 3) dX8_runScript_1 (by decide) ?_
  refine sp_icmp_ne (pc := 2) (tgt := 11) dX8_runScript_2 (by decide) (fun c1 => ?_) (fun c1 => ?_)
  · rw [if_neg c1] at hf
    refine sp_iload_n (pc := 11) dX8_runScript_11 1 rfl ?_
    refine sp_iconst (pc := 12) (v := 2) dX8_runScript_12 (by decide) ?_
    refine sp_icmp_ne (pc := 13) (tgt := 22) dX8_runScript_13 (by decide) (fun c2 => ?_) (fun c2 => ?_)
    · rw [if_neg c2] at hf
      refine sp_ldc2 (pc := 22) dX8_runScript_22 bk_1320 ?_
      exact (w_X8_runScript_25 hQ hf)
    · rw [if_pos c2] at hf
      refine sp_ldc2 (pc := 16) dX8_runScript_16 bk_1319 ?_
      refine sp_goto (pc := 19) (tgt := 25) dX8_runScript_19 (by decide) ?_
      exact (w_X8_runScript_25 hQ hf)
  · rw [if_pos c1] at hf
    refine sp_ldc2 (pc := 5) dX8_runScript_5 bk_1318 ?_
    refine sp_goto (pc := 8) (tgt := 25) dX8_runScript_8 (by decide) ?_
    exact (w_X8_runScript_25 hQ hf)

theorem o_X8_runScript {h : HP} {v0 : Nat} {v1 : Int32} {v2 : Int64} {res : Int32 × HP} (hf : f_X8_runScript h v0 v1 v2 = some res) : ∃ fs, h v0 = some (.inr (8, fs)) := by
  obtain ⟨u, eu, -⟩ := ob hf
  exact kO_spec eu

theorem m_X8_runScript {l : Launch} {Q : PST} {h : HP} {v0 : Nat} {v1 : Int32} {v2 : Int64} {sz : Nat} {res : Int32 × HP} (hQ : ∀ sz', Q (.inl (some (.int res.1))) res.2 sz') (hf : f_X8_runScript h v0 v1 v2 = some res) : MM l M_X8_runScript [.ref v0, .int v1, .long v2] h sz Q := by
  obtain ⟨u, eu, hf⟩ := ob hf
  exact MM_of wok_X8_runScript (by decide +kernel) (Nat.le_of_ble_eq_true rfl) ((w_X8_runScript_0 hQ hf))

theorem dX8_turn_0 : decode (mB M_X8_turn) 0 = .ok (.iload_n 1, 1) := by decide +kernel
theorem dX8_turn_1 : decode (mB M_X8_turn) 1 = .ok (.bipush 8, 2) := by decide +kernel
theorem dX8_turn_3 : decode (mB M_X8_turn) 3 = .ok (.idiv, 1) := by decide +kernel
theorem dX8_turn_4 : decode (mB M_X8_turn) 4 = .ok (.istore_n 2, 1) := by decide +kernel
theorem dX8_turn_5 : decode (mB M_X8_turn) 5 = .ok (.iload_n 2, 1) := by decide +kernel
theorem dX8_turn_6 : decode (mB M_X8_turn) 6 = .ok (.bipush 100, 2) := by decide +kernel
theorem dX8_turn_8 : decode (mB M_X8_turn) 8 = .ok (.irem, 1) := by decide +kernel
theorem dX8_turn_9 : decode (mB M_X8_turn) 9 = .ok (.iload_n 2, 1) := by decide +kernel
theorem dX8_turn_10 : decode (mB M_X8_turn) 10 = .ok (.sipush 128, 3) := by decide +kernel
theorem dX8_turn_13 : decode (mB M_X8_turn) 13 = .ok (.idiv, 1) := by decide +kernel
theorem dX8_turn_14 : decode (mB M_X8_turn) 14 = .ok (.bipush 20, 2) := by decide +kernel
theorem dX8_turn_16 : decode (mB M_X8_turn) 16 = .ok (.irem, 1) := by decide +kernel
theorem dX8_turn_17 : decode (mB M_X8_turn) 17 = .ok (.iadd, 1) := by decide +kernel
theorem dX8_turn_18 : decode (mB M_X8_turn) 18 = .ok (.istore_n 3, 1) := by decide +kernel
theorem dX8_turn_19 : decode (mB M_X8_turn) 19 = .ok (.iload_n 1, 1) := by decide +kernel
theorem dX8_turn_20 : decode (mB M_X8_turn) 20 = .ok (.bipush 8, 2) := by decide +kernel
theorem dX8_turn_22 : decode (mB M_X8_turn) 22 = .ok (.irem, 1) := by decide +kernel
theorem dX8_turn_23 : decode (mB M_X8_turn) 23 = .ok (.istore 4, 2) := by decide +kernel
theorem dX8_turn_25 : decode (mB M_X8_turn) 25 = .ok (.aload_n 0, 1) := by decide +kernel
theorem dX8_turn_26 : decode (mB M_X8_turn) 26 = .ok (.iload 4, 2) := by decide +kernel
theorem dX8_turn_28 : decode (mB M_X8_turn) 28 = .ok (.iconst 4, 1) := by decide +kernel
theorem dX8_turn_29 : decode (mB M_X8_turn) 29 = .ok (.if_icmp .ge 8, 3) := by decide +kernel
theorem dX8_turn_32 : decode (mB M_X8_turn) 32 = .ok (.bipush 112, 2) := by decide +kernel
theorem dX8_turn_34 : decode (mB M_X8_turn) 34 = .ok (.goto 55, 3) := by decide +kernel
theorem dX8_turn_37 : decode (mB M_X8_turn) 37 = .ok (.iload 4, 2) := by decide +kernel
theorem dX8_turn_39 : decode (mB M_X8_turn) 39 = .ok (.iconst 4, 1) := by decide +kernel
theorem dX8_turn_40 : decode (mB M_X8_turn) 40 = .ok (.if_icmp .ne 8, 3) := by decide +kernel
theorem dX8_turn_43 : decode (mB M_X8_turn) 43 = .ok (.bipush 120, 2) := by decide +kernel
theorem dX8_turn_45 : decode (mB M_X8_turn) 45 = .ok (.goto 44, 3) := by decide +kernel
theorem dX8_turn_48 : decode (mB M_X8_turn) 48 = .ok (.iload 4, 2) := by decide +kernel
theorem dX8_turn_50 : decode (mB M_X8_turn) 50 = .ok (.iconst 5, 1) := by decide +kernel
theorem dX8_turn_51 : decode (mB M_X8_turn) 51 = .ok (.if_icmp .ne 8, 3) := by decide +kernel
theorem dX8_turn_54 : decode (mB M_X8_turn) 54 = .ok (.bipush 102, 2) := by decide +kernel
theorem dX8_turn_56 : decode (mB M_X8_turn) 56 = .ok (.goto 33, 3) := by decide +kernel
theorem dX8_turn_59 : decode (mB M_X8_turn) 59 = .ok (.iload 4, 2) := by decide +kernel
theorem dX8_turn_61 : decode (mB M_X8_turn) 61 = .ok (.bipush 6, 2) := by decide +kernel
theorem dX8_turn_63 : decode (mB M_X8_turn) 63 = .ok (.if_icmp .ne 8, 3) := by decide +kernel
theorem dX8_turn_66 : decode (mB M_X8_turn) 66 = .ok (.bipush 109, 2) := by decide +kernel
theorem dX8_turn_68 : decode (mB M_X8_turn) 68 = .ok (.goto 21, 3) := by decide +kernel
theorem dX8_turn_71 : decode (mB M_X8_turn) 71 = .ok (.aload_n 0, 1) := by decide +kernel
theorem dX8_turn_72 : decode (mB M_X8_turn) 72 = .ok (.getfield 7, 3) := by decide +kernel
theorem dX8_turn_75 : decode (mB M_X8_turn) 75 = .ok (.bipush 7, 2) := by decide +kernel
theorem dX8_turn_77 : decode (mB M_X8_turn) 77 = .ok (.iaload, 1) := by decide +kernel
theorem dX8_turn_78 : decode (mB M_X8_turn) 78 = .ok (.iconst 2, 1) := by decide +kernel
theorem dX8_turn_79 : decode (mB M_X8_turn) 79 = .ok (.if_icmp .ge 8, 3) := by decide +kernel
theorem dX8_turn_82 : decode (mB M_X8_turn) 82 = .ok (.bipush 111, 2) := by decide +kernel
theorem dX8_turn_84 : decode (mB M_X8_turn) 84 = .ok (.goto 5, 3) := by decide +kernel
theorem dX8_turn_87 : decode (mB M_X8_turn) 87 = .ok (.bipush 99, 2) := by decide +kernel
theorem dX8_turn_89 : decode (mB M_X8_turn) 89 = .ok (.putfield 137, 3) := by decide +kernel
theorem dX8_turn_92 : decode (mB M_X8_turn) 92 = .ok (.aload_n 0, 1) := by decide +kernel
theorem dX8_turn_93 : decode (mB M_X8_turn) 93 = .ok (.iload 4, 2) := by decide +kernel
theorem dX8_turn_95 : decode (mB M_X8_turn) 95 = .ok (.iconst 5, 1) := by decide +kernel
theorem dX8_turn_96 : decode (mB M_X8_turn) 96 = .ok (.if_icmp .ge 10, 3) := by decide +kernel
theorem dX8_turn_99 : decode (mB M_X8_turn) 99 = .ok (.iload_n 2, 1) := by decide +kernel
theorem dX8_turn_100 : decode (mB M_X8_turn) 100 = .ok (.bipush 100, 2) := by decide +kernel
theorem dX8_turn_102 : decode (mB M_X8_turn) 102 = .ok (.irem, 1) := by decide +kernel
theorem dX8_turn_103 : decode (mB M_X8_turn) 103 = .ok (.goto 19, 3) := by decide +kernel
theorem dX8_turn_106 : decode (mB M_X8_turn) 106 = .ok (.iload 4, 2) := by decide +kernel
theorem dX8_turn_108 : decode (mB M_X8_turn) 108 = .ok (.bipush 6, 2) := by decide +kernel
theorem dX8_turn_110 : decode (mB M_X8_turn) 110 = .ok (.if_icmp .ne 9, 3) := by decide +kernel
theorem dX8_turn_113 : decode (mB M_X8_turn) 113 = .ok (.iload_n 2, 1) := by decide +kernel
theorem dX8_turn_114 : decode (mB M_X8_turn) 114 = .ok (.iconst 5, 1) := by decide +kernel
theorem dX8_turn_115 : decode (mB M_X8_turn) 115 = .ok (.irem, 1) := by decide +kernel
theorem dX8_turn_116 : decode (mB M_X8_turn) 116 = .ok (.goto 6, 3) := by decide +kernel
theorem dX8_turn_119 : decode (mB M_X8_turn) 119 = .ok (.iload_n 2, 1) := by decide +kernel
theorem dX8_turn_120 : decode (mB M_X8_turn) 120 = .ok (.iconst 2, 1) := by decide +kernel
theorem dX8_turn_121 : decode (mB M_X8_turn) 121 = .ok (.irem, 1) := by decide +kernel
theorem dX8_turn_122 : decode (mB M_X8_turn) 122 = .ok (.putfield 143, 3) := by decide +kernel
theorem dX8_turn_125 : decode (mB M_X8_turn) 125 = .ok (.aload_n 0, 1) := by decide +kernel
theorem dX8_turn_126 : decode (mB M_X8_turn) 126 = .ok (.iload 4, 2) := by decide +kernel
theorem dX8_turn_128 : decode (mB M_X8_turn) 128 = .ok (.iconst 4, 1) := by decide +kernel
theorem dX8_turn_129 : decode (mB M_X8_turn) 129 = .ok (.if_icmp .ge 17, 3) := by decide +kernel
theorem dX8_turn_132 : decode (mB M_X8_turn) 132 = .ok (.iconst 1, 1) := by decide +kernel
theorem dX8_turn_133 : decode (mB M_X8_turn) 133 = .ok (.iload_n 2, 1) := by decide +kernel
theorem dX8_turn_134 : decode (mB M_X8_turn) 134 = .ok (.sipush 128, 3) := by decide +kernel
theorem dX8_turn_137 : decode (mB M_X8_turn) 137 = .ok (.idiv, 1) := by decide +kernel
theorem dX8_turn_138 : decode (mB M_X8_turn) 138 = .ok (.sipush 999, 3) := by decide +kernel
theorem dX8_turn_141 : decode (mB M_X8_turn) 141 = .ok (.irem, 1) := by decide +kernel
theorem dX8_turn_142 : decode (mB M_X8_turn) 142 = .ok (.iadd, 1) := by decide +kernel
theorem dX8_turn_143 : decode (mB M_X8_turn) 143 = .ok (.goto 15, 3) := by decide +kernel
theorem dX8_turn_146 : decode (mB M_X8_turn) 146 = .ok (.iload_n 3, 1) := by decide +kernel
theorem dX8_turn_147 : decode (mB M_X8_turn) 147 = .ok (.bipush 99, 2) := by decide +kernel
theorem dX8_turn_149 : decode (mB M_X8_turn) 149 = .ok (.if_icmp .le 8, 3) := by decide +kernel
theorem dX8_turn_152 : decode (mB M_X8_turn) 152 = .ok (.bipush 99, 2) := by decide +kernel
theorem dX8_turn_154 : decode (mB M_X8_turn) 154 = .ok (.goto 4, 3) := by decide +kernel
theorem dX8_turn_157 : decode (mB M_X8_turn) 157 = .ok (.iload_n 3, 1) := by decide +kernel
theorem dX8_turn_158 : decode (mB M_X8_turn) 158 = .ok (.putfield 146, 3) := by decide +kernel
theorem dX8_turn_161 : decode (mB M_X8_turn) 161 = .ok (.aload_n 0, 1) := by decide +kernel
theorem dX8_turn_162 : decode (mB M_X8_turn) 162 = .ok (.invokevirtual 182, 3) := by decide +kernel
theorem dX8_turn_165 : decode (mB M_X8_turn) 165 = .ok (.istore 5, 2) := by decide +kernel
theorem dX8_turn_167 : decode (mB M_X8_turn) 167 = .ok (.return_, 1) := by decide +kernel
def b_X8_turn_158 (v0 : Nat) (h : HP) (s0 : Nat) (s1 : Int32) : Option (HP) :=
  (pI 8 16 h s0 s1).bind fun h1 => (f_X8_does h1 v0).bind fun y2 => some y2.2
def b_X8_turn_122 (v0 : Nat) (h : HP) (v2 : Int32) (v3 : Int32) (v4 : Int32) (s0 : Nat) (s1 : Int32) : Option (HP) :=
  (pI 8 15 h s0 s1).bind fun h1 => if 4 ≤ v4 then if v3 ≤ 99 then b_X8_turn_158 v0 h1 v0 v3 else b_X8_turn_158 v0 h1 v0 99 else b_X8_turn_158 v0 h1 v0 (1 + (jrem (v2 / 128) 999))
def b_X8_turn_89 (v0 : Nat) (h : HP) (v2 : Int32) (v3 : Int32) (v4 : Int32) (s0 : Nat) (s1 : Int32) : Option (HP) :=
  (pI 8 14 h s0 s1).bind fun h1 => if 5 ≤ v4 then if v4 = 6 then b_X8_turn_122 v0 h1 v2 v3 v4 v0 (jrem v2 5) else b_X8_turn_122 v0 h1 v2 v3 v4 v0 (jrem v2 2) else b_X8_turn_122 v0 h1 v2 v3 v4 v0 (jrem v2 100)
def b_X8_turn_0 (v0 : Nat) (v1 : Int32) (h : HP) : Option (HP) :=
  if 4 ≤ (jrem v1 8) then if (jrem v1 8) = 4 then b_X8_turn_89 v0 h (v1 / 8) ((jrem (v1 / 8) 100) + (jrem ((v1 / 8) / 128) 20)) (jrem v1 8) v0 120 else if (jrem v1 8) = 5 then b_X8_turn_89 v0 h (v1 / 8) ((jrem (v1 / 8) 100) + (jrem ((v1 / 8) / 128) 20)) (jrem v1 8) v0 102 else if (jrem v1 8) = 6 then b_X8_turn_89 v0 h (v1 / 8) ((jrem (v1 / 8) 100) + (jrem ((v1 / 8) / 128) 20)) (jrem v1 8) v0 109 else (gR 8 1 h v0).bind fun x5 => (aI h x5 7).bind fun x6 => if 2 ≤ x6 then b_X8_turn_89 v0 h (v1 / 8) ((jrem (v1 / 8) 100) + (jrem ((v1 / 8) / 128) 20)) (jrem v1 8) v0 99 else b_X8_turn_89 v0 h (v1 / 8) ((jrem (v1 / 8) 100) + (jrem ((v1 / 8) / 128) 20)) (jrem v1 8) v0 111 else b_X8_turn_89 v0 h (v1 / 8) ((jrem (v1 / 8) 100) + (jrem ((v1 / 8) / 128) 20)) (jrem v1 8) v0 112
def f_X8_turn (h : HP) (v0 : Nat) (v1 : Int32) : Option (HP) := (kO 8 h v0).bind fun _ => b_X8_turn_0 v0 v1 h
theorem w_X8_turn_158 {l : Launch} {X : SCR} {Q : PST} {bc bs : Nat} {res : HP} {h : HP} (hQ : ∀ sz', Q (.inl none) res sz') {v0 : Nat} {s0 : Nat} {s1 : Int32} {sz : Nat} (hf : b_X8_turn_158 v0 h s0 s1 = some res) : SP l X M_X8_turn 158 [(0, .ref v0)] [.int s1, .ref s0] h sz bc bs Q := by
  rw [b_X8_turn_158] at hf
  obtain ⟨h1, eh1, hf⟩ := ob hf
  refine sp_pI (pc := 158) pf_RX8_146 dX8_turn_158 eh1 (fun sz => ?_)
  refine sp_aload_n (pc := 161) dX8_turn_161 0 rfl ?_
  obtain ⟨y2, ey2, hf⟩ := ob hf
  obtain ⟨fsy2, hoy2⟩ := o_X8_does ey2
  refine sp_callVi (pc := 162) (z := M_X8_does) (As := []) (b := v0) (bc2 := bc) (bs2 := bs) (m_X8_does (Q := _) (fun sz => ⟨y2.1, rfl, ?_⟩) ey2) rfl dX8_turn_162 hoy2 rfl rfl ck_X8_turn_182 (Nat.le_of_ble_eq_true rfl) rfl rfl rfl
  refine sp_istore (pc := 165) (lv' := [(5, .int y2.1), (0, .ref v0)]) dX8_turn_165 (by decide) rfl ?_
  obtain rfl := Option.some.inj hf
  exact sp_return (pc := 167) dX8_turn_167 rfl (hQ _)

theorem w_X8_turn_122 {l : Launch} {X : SCR} {Q : PST} {bc bs : Nat} {res : HP} {h : HP} (hQ : ∀ sz', Q (.inl none) res sz') {v0 : Nat} {v2 : Int32} {v3 : Int32} {v4 : Int32} {s0 : Nat} {s1 : Int32} {sz : Nat} (hf : b_X8_turn_122 v0 h v2 v3 v4 s0 s1 = some res) : SP l X M_X8_turn 122 [(0, .ref v0), (2, .int v2), (3, .int v3), (4, .int v4)] [.int s1, .ref s0] h sz bc bs Q := by
  rw [b_X8_turn_122] at hf
  obtain ⟨h1, eh1, hf⟩ := ob hf
  refine sp_pI (pc := 122) pf_RX8_143 dX8_turn_122 eh1 (fun sz => ?_)
  refine sp_aload_n (pc := 125) dX8_turn_125 0 rfl ?_
  refine sp_iload (pc := 126) dX8_turn_126 3 rfl ?_
  refine sp_iconst (pc := 128) (v := 4) dX8_turn_128 (by decide) ?_
  refine sp_icmp_ge (pc := 129) (tgt := 146) dX8_turn_129 (by decide) (fun c2 => ?_) (fun c2 => ?_)
  · rw [if_pos c2] at hf
    refine sp_iload_n (pc := 146) dX8_turn_146 2 rfl ?_
    refine sp_bipush (pc := 147) (v := 99) dX8_turn_147 (by decide) ?_
    refine sp_icmp_le (pc := 149) (tgt := 157) dX8_turn_149 (by decide) (fun c3 => ?_) (fun c3 => ?_)
    · rw [if_pos c3] at hf
      refine sp_iload_n (pc := 157) dX8_turn_157 2 rfl ?_
      exact sp_sub [0] rfl (w_X8_turn_158 hQ hf)
    · rw [if_neg c3] at hf
      refine sp_bipush (pc := 152) (v := 99) dX8_turn_152 (by decide) ?_
      refine sp_goto (pc := 154) (tgt := 158) dX8_turn_154 (by decide) ?_
      exact sp_sub [0] rfl (w_X8_turn_158 hQ hf)
  · rw [if_neg c2] at hf
    refine sp_iconst (pc := 132) (v := 1) dX8_turn_132 (by decide) ?_
    refine sp_iload_n (pc := 133) dX8_turn_133 1 rfl ?_
    refine sp_sipush (pc := 134) (v := 128) dX8_turn_134 (by decide) ?_
    refine sp_idiv (pc := 137) dX8_turn_137 (by decide) ?_
    refine sp_sipush (pc := 138) (v := 999) dX8_turn_138 (by decide) ?_
    refine sp_iremJ (pc := 141) dX8_turn_141 (by decide) ?_
    refine sp_iadd (pc := 142) dX8_turn_142 ?_
    refine sp_goto (pc := 143) (tgt := 158) dX8_turn_143 (by decide) ?_
    exact sp_sub [0] rfl (w_X8_turn_158 hQ hf)

theorem w_X8_turn_89 {l : Launch} {X : SCR} {Q : PST} {bc bs : Nat} {res : HP} {h : HP} (hQ : ∀ sz', Q (.inl none) res sz') {v0 : Nat} {v2 : Int32} {v3 : Int32} {v4 : Int32} {s0 : Nat} {s1 : Int32} {sz : Nat} (hf : b_X8_turn_89 v0 h v2 v3 v4 s0 s1 = some res) : SP l X M_X8_turn 89 [(0, .ref v0), (2, .int v2), (3, .int v3), (4, .int v4)] [.int s1, .ref s0] h sz bc bs Q := by
  rw [b_X8_turn_89] at hf
  obtain ⟨h1, eh1, hf⟩ := ob hf
  refine sp_pI (pc := 89) pf_RX8_137 dX8_turn_89 eh1 (fun sz => ?_)
  refine sp_aload_n (pc := 92) dX8_turn_92 0 rfl ?_
  refine sp_iload (pc := 93) dX8_turn_93 3 rfl ?_
  refine sp_iconst (pc := 95) (v := 5) dX8_turn_95 (by decide) ?_
  refine sp_icmp_ge (pc := 96) (tgt := 106) dX8_turn_96 (by decide) (fun c2 => ?_) (fun c2 => ?_)
  · rw [if_pos c2] at hf
    refine sp_iload (pc := 106) dX8_turn_106 3 rfl ?_
    refine sp_bipush (pc := 108) (v := 6) dX8_turn_108 (by decide) ?_
    refine sp_icmp_ne (pc := 110) (tgt := 119) dX8_turn_110 (by decide) (fun c3 => ?_) (fun c3 => ?_)
    · rw [if_neg c3] at hf
      refine sp_iload_n (pc := 119) dX8_turn_119 1 rfl ?_
      refine sp_iconst (pc := 120) (v := 2) dX8_turn_120 (by decide) ?_
      refine sp_iremJ (pc := 121) dX8_turn_121 (by decide) ?_
      exact (w_X8_turn_122 hQ hf)
    · rw [if_pos c3] at hf
      refine sp_iload_n (pc := 113) dX8_turn_113 1 rfl ?_
      refine sp_iconst (pc := 114) (v := 5) dX8_turn_114 (by decide) ?_
      refine sp_iremJ (pc := 115) dX8_turn_115 (by decide) ?_
      refine sp_goto (pc := 116) (tgt := 122) dX8_turn_116 (by decide) ?_
      exact (w_X8_turn_122 hQ hf)
  · rw [if_neg c2] at hf
    refine sp_iload_n (pc := 99) dX8_turn_99 1 rfl ?_
    refine sp_bipush (pc := 100) (v := 100) dX8_turn_100 (by decide) ?_
    refine sp_iremJ (pc := 102) dX8_turn_102 (by decide) ?_
    refine sp_goto (pc := 103) (tgt := 122) dX8_turn_103 (by decide) ?_
    exact (w_X8_turn_122 hQ hf)

theorem w_X8_turn_0 {l : Launch} {X : SCR} {Q : PST} {bc bs : Nat} {res : HP} {h : HP} (hQ : ∀ sz', Q (.inl none) res sz') {v0 : Nat} {v1 : Int32} {sz : Nat} (hf : b_X8_turn_0 v0 v1 h  = some res) : SP l X M_X8_turn 0 [(0, .ref v0), (1, .int v1)] [] h sz bc bs Q := by
  rw [b_X8_turn_0] at hf
  refine sp_iload_n (pc := 0) dX8_turn_0 1 rfl ?_
  refine sp_bipush (pc := 1) (v := 8) dX8_turn_1 (by decide) ?_
  refine sp_idiv (pc := 3) dX8_turn_3 (by decide) ?_
  refine sp_istore_n (pc := 4) (lv' := [(2, .int (v1 / 8)), (0, .ref v0), (1, .int v1)]) dX8_turn_4 (by decide) rfl ?_
  refine sp_iload_n (pc := 5) dX8_turn_5 0 rfl ?_
  refine sp_bipush (pc := 6) (v := 100) dX8_turn_6 (by decide) ?_
  refine sp_iremJ (pc := 8) dX8_turn_8 (by decide) ?_
  refine sp_iload_n (pc := 9) dX8_turn_9 0 rfl ?_
  refine sp_sipush (pc := 10) (v := 128) dX8_turn_10 (by decide) ?_
  refine sp_idiv (pc := 13) dX8_turn_13 (by decide) ?_
  refine sp_bipush (pc := 14) (v := 20) dX8_turn_14 (by decide) ?_
  refine sp_iremJ (pc := 16) dX8_turn_16 (by decide) ?_
  refine sp_iadd (pc := 17) dX8_turn_17 ?_
  refine sp_istore_n (pc := 18) (lv' := [(3, .int ((jrem (v1 / 8) 100) + (jrem ((v1 / 8) / 128) 20))), (2, .int (v1 / 8)), (0, .ref v0), (1, .int v1)]) dX8_turn_18 (by decide) rfl ?_
  refine sp_iload_n (pc := 19) dX8_turn_19 3 rfl ?_
  refine sp_bipush (pc := 20) (v := 8) dX8_turn_20 (by decide) ?_
  refine sp_iremJ (pc := 22) dX8_turn_22 (by decide) ?_
  refine sp_istore (pc := 23) (lv' := [(4, .int (jrem v1 8)), (3, .int ((jrem (v1 / 8) 100) + (jrem ((v1 / 8) / 128) 20))), (2, .int (v1 / 8)), (0, .ref v0), (1, .int v1)]) dX8_turn_23 (by decide) rfl ?_
  refine sp_aload_n (pc := 25) dX8_turn_25 3 rfl ?_
  refine sp_iload (pc := 26) dX8_turn_26 0 rfl ?_
  refine sp_iconst (pc := 28) (v := 4) dX8_turn_28 (by decide) ?_
  refine sp_icmp_ge (pc := 29) (tgt := 37) dX8_turn_29 (by decide) (fun c1 => ?_) (fun c1 => ?_)
  · rw [if_pos c1] at hf
    refine sp_iload (pc := 37) dX8_turn_37 0 rfl ?_
    refine sp_iconst (pc := 39) (v := 4) dX8_turn_39 (by decide) ?_
    refine sp_icmp_ne (pc := 40) (tgt := 48) dX8_turn_40 (by decide) (fun c2 => ?_) (fun c2 => ?_)
    · rw [if_neg c2] at hf
      refine sp_iload (pc := 48) dX8_turn_48 0 rfl ?_
      refine sp_iconst (pc := 50) (v := 5) dX8_turn_50 (by decide) ?_
      refine sp_icmp_ne (pc := 51) (tgt := 59) dX8_turn_51 (by decide) (fun c3 => ?_) (fun c3 => ?_)
      · rw [if_neg c3] at hf
        refine sp_iload (pc := 59) dX8_turn_59 0 rfl ?_
        refine sp_bipush (pc := 61) (v := 6) dX8_turn_61 (by decide) ?_
        refine sp_icmp_ne (pc := 63) (tgt := 71) dX8_turn_63 (by decide) (fun c4 => ?_) (fun c4 => ?_)
        · rw [if_neg c4] at hf
          refine sp_aload_n (pc := 71) dX8_turn_71 3 rfl ?_
          obtain ⟨x5, ex5, hf⟩ := ob hf
          refine sp_gR (pc := 72) fl_RX8_7 dX8_turn_72 ex5 ?_
          refine sp_bipush (pc := 75) (v := 7) dX8_turn_75 (by decide) ?_
          obtain ⟨x6, ex6, hf⟩ := ob hf
          refine sp_aI (pc := 77) dX8_turn_77 ex6 ?_
          refine sp_iconst (pc := 78) (v := 2) dX8_turn_78 (by decide) ?_
          refine sp_icmp_ge (pc := 79) (tgt := 87) dX8_turn_79 (by decide) (fun c7 => ?_) (fun c7 => ?_)
          · rw [if_pos c7] at hf
            refine sp_bipush (pc := 87) (v := 99) dX8_turn_87 (by decide) ?_
            exact sp_sub [3, 2, 1, 0] rfl (w_X8_turn_89 hQ hf)
          · rw [if_neg c7] at hf
            refine sp_bipush (pc := 82) (v := 111) dX8_turn_82 (by decide) ?_
            refine sp_goto (pc := 84) (tgt := 89) dX8_turn_84 (by decide) ?_
            exact sp_sub [3, 2, 1, 0] rfl (w_X8_turn_89 hQ hf)
        · rw [if_pos c4] at hf
          refine sp_bipush (pc := 66) (v := 109) dX8_turn_66 (by decide) ?_
          refine sp_goto (pc := 68) (tgt := 89) dX8_turn_68 (by decide) ?_
          exact sp_sub [3, 2, 1, 0] rfl (w_X8_turn_89 hQ hf)
      · rw [if_pos c3] at hf
        refine sp_bipush (pc := 54) (v := 102) dX8_turn_54 (by decide) ?_
        refine sp_goto (pc := 56) (tgt := 89) dX8_turn_56 (by decide) ?_
        exact sp_sub [3, 2, 1, 0] rfl (w_X8_turn_89 hQ hf)
    · rw [if_pos c2] at hf
      refine sp_bipush (pc := 43) (v := 120) dX8_turn_43 (by decide) ?_
      refine sp_goto (pc := 45) (tgt := 89) dX8_turn_45 (by decide) ?_
      exact sp_sub [3, 2, 1, 0] rfl (w_X8_turn_89 hQ hf)
  · rw [if_neg c1] at hf
    refine sp_bipush (pc := 32) (v := 112) dX8_turn_32 (by decide) ?_
    refine sp_goto (pc := 34) (tgt := 89) dX8_turn_34 (by decide) ?_
    exact sp_sub [3, 2, 1, 0] rfl (w_X8_turn_89 hQ hf)

theorem o_X8_turn {h : HP} {v0 : Nat} {v1 : Int32} {res : HP} (hf : f_X8_turn h v0 v1 = some res) : ∃ fs, h v0 = some (.inr (8, fs)) := by
  obtain ⟨u, eu, -⟩ := ob hf
  exact kO_spec eu

theorem m_X8_turn {l : Launch} {Q : PST} {h : HP} {v0 : Nat} {v1 : Int32} {sz : Nat} {res : HP} (hQ : ∀ sz', Q (.inl none) res sz') (hf : f_X8_turn h v0 v1 = some res) : MM l M_X8_turn [.ref v0, .int v1] h sz Q := by
  obtain ⟨u, eu, hf⟩ := ob hf
  exact MM_of wok_X8_turn (by decide +kernel) (Nat.le_of_ble_eq_true rfl) ((w_X8_turn_0 hQ hf))

theorem dX8_simulated_0 : decode (mB M_X8_simulated) 0 = .ok (.lload_n 1, 1) := by decide +kernel
theorem dX8_simulated_1 : decode (mB M_X8_simulated) 1 = .ok (.lstore 4, 2) := by decide +kernel
theorem dX8_simulated_3 : decode (mB M_X8_simulated) 3 = .ok (.aload_n 0, 1) := by decide +kernel
theorem dX8_simulated_4 : decode (mB M_X8_simulated) 4 = .ok (.invokevirtual 234, 3) := by decide +kernel
theorem dX8_simulated_7 : decode (mB M_X8_simulated) 7 = .ok (.iconst 0, 1) := by decide +kernel
theorem dX8_simulated_8 : decode (mB M_X8_simulated) 8 = .ok (.istore 6, 2) := by decide +kernel
theorem dX8_simulated_10 : decode (mB M_X8_simulated) 10 = .ok (.iload 6, 2) := by decide +kernel
theorem dX8_simulated_12 : decode (mB M_X8_simulated) 12 = .ok (.iload_n 3, 1) := by decide +kernel
theorem dX8_simulated_13 : decode (mB M_X8_simulated) 13 = .ok (.if_icmp .ge 31, 3) := by decide +kernel
theorem dX8_simulated_16 : decode (mB M_X8_simulated) 16 = .ok (.lload 4, 2) := by decide +kernel
theorem dX8_simulated_18 : decode (mB M_X8_simulated) 18 = .ok (.ldc2_w 253, 3) := by decide +kernel
theorem dX8_simulated_21 : decode (mB M_X8_simulated) 21 = .ok (.lmul, 1) := by decide +kernel
theorem dX8_simulated_22 : decode (mB M_X8_simulated) 22 = .ok (.ldc2_w 255, 3) := by decide +kernel
theorem dX8_simulated_25 : decode (mB M_X8_simulated) 25 = .ok (.ladd, 1) := by decide +kernel
theorem dX8_simulated_26 : decode (mB M_X8_simulated) 26 = .ok (.lstore 4, 2) := by decide +kernel
theorem dX8_simulated_28 : decode (mB M_X8_simulated) 28 = .ok (.aload_n 0, 1) := by decide +kernel
theorem dX8_simulated_29 : decode (mB M_X8_simulated) 29 = .ok (.lload 4, 2) := by decide +kernel
theorem dX8_simulated_31 : decode (mB M_X8_simulated) 31 = .ok (.bipush 33, 2) := by decide +kernel
theorem dX8_simulated_33 : decode (mB M_X8_simulated) 33 = .ok (.lushr, 1) := by decide +kernel
theorem dX8_simulated_34 : decode (mB M_X8_simulated) 34 = .ok (.l2i, 1) := by decide +kernel
theorem dX8_simulated_35 : decode (mB M_X8_simulated) 35 = .ok (.invokevirtual 257, 3) := by decide +kernel
theorem dX8_simulated_38 : decode (mB M_X8_simulated) 38 = .ok (.iinc 6 1, 3) := by decide +kernel
theorem dX8_simulated_41 : decode (mB M_X8_simulated) 41 = .ok (.goto (-31), 3) := by decide +kernel
theorem dX8_simulated_44 : decode (mB M_X8_simulated) 44 = .ok (.sipush 1000, 3) := by decide +kernel
theorem dX8_simulated_47 : decode (mB M_X8_simulated) 47 = .ok (.aload_n 0, 1) := by decide +kernel
theorem dX8_simulated_48 : decode (mB M_X8_simulated) 48 = .ok (.iconst 0, 1) := by decide +kernel
theorem dX8_simulated_49 : decode (mB M_X8_simulated) 49 = .ok (.bipush 99, 2) := by decide +kernel
theorem dX8_simulated_51 : decode (mB M_X8_simulated) 51 = .ok (.iconst (-1), 1) := by decide +kernel
theorem dX8_simulated_52 : decode (mB M_X8_simulated) 52 = .ok (.invokevirtual 100, 3) := by decide +kernel
theorem dX8_simulated_55 : decode (mB M_X8_simulated) 55 = .ok (.imul, 1) := by decide +kernel
theorem dX8_simulated_56 : decode (mB M_X8_simulated) 56 = .ok (.aload_n 0, 1) := by decide +kernel
theorem dX8_simulated_57 : decode (mB M_X8_simulated) 57 = .ok (.invokevirtual 54, 3) := by decide +kernel
theorem dX8_simulated_60 : decode (mB M_X8_simulated) 60 = .ok (.iadd, 1) := by decide +kernel
theorem dX8_simulated_61 : decode (mB M_X8_simulated) 61 = .ok (.istore 6, 2) := by decide +kernel
theorem dX8_simulated_63 : decode (mB M_X8_simulated) 63 = .ok (.aload_n 0, 1) := by decide +kernel
theorem dX8_simulated_64 : decode (mB M_X8_simulated) 64 = .ok (.invokevirtual 240, 3) := by decide +kernel
theorem dX8_simulated_67 : decode (mB M_X8_simulated) 67 = .ok (.iload 6, 2) := by decide +kernel
theorem dX8_simulated_69 : decode (mB M_X8_simulated) 69 = .ok (.ireturn, 1) := by decide +kernel
def c_X8_simulated_10 (v0 : Nat) (v3 : Int32) (k10 : HP → Int64 → Int32 → Option (Int32 × HP)) (h : HP) (v4 : Int64) (v6 : Int32) : Option (Int32 × HP) :=
  if v3 ≤ v6 then (f_X8_countSeen h v0 0 99 (-1)).bind fun y2 => (f_X8_all h v0).bind fun y3 => (f_X8_putBack h v0).bind fun y4 => some ((1000 * y2) + y3, y4) else (f_X8_turn h v0 (Int64.toInt32 (jlushr ((v4 * 6364136223846793005) + 1442695040888963407) 33))).bind fun y5 => k10 y5 ((v4 * 6364136223846793005) + 1442695040888963407) (v6 + 1)
def b_X8_simulated_10 (v0 : Nat) (v3 : Int32) : Nat → HP → Int64 → Int32 → Option (Int32 × HP)
  | 0, _, _, _ => none
  | n + 1, h, v4, v6 => c_X8_simulated_10 v0 v3 (b_X8_simulated_10 v0 v3 n) h v4 v6
def b_X8_simulated_0 (v0 : Nat) (v1 : Int64) (v3 : Int32) (h : HP) : Option (Int32 × HP) :=
  (f_X8_putAside h v0).bind fun y1 => b_X8_simulated_10 v0 v3 FU y1 v1 0
def f_X8_simulated (h : HP) (v0 : Nat) (v1 : Int64) (v3 : Int32) : Option (Int32 × HP) := (kO 8 h v0).bind fun _ => b_X8_simulated_0 v0 v1 v3 h
theorem wc_X8_simulated_10 {l : Launch} {X : SCR} {Q : PST} {bc bs : Nat} {res : Int32 × HP} (hQ : ∀ sz', Q (.inl (some (.int res.1))) res.2 sz') {v0 : Nat} {v3 : Int32} {k10 : HP → Int64 → Int32 → Option (Int32 × HP)} (hk10 : ∀ (h : HP) (v4 : Int64) (v6 : Int32) (sz : Nat), k10 h v4 v6 = some res → SP l X M_X8_simulated 10 [(0, .ref v0), (3, .int v3), (4, .long v4), (6, .int v6)] [] h sz bc bs Q) {h : HP} {v4 : Int64} {v6 : Int32} {sz : Nat} (hf : c_X8_simulated_10 v0 v3 k10 h v4 v6 = some res) : SP l X M_X8_simulated 10 [(0, .ref v0), (3, .int v3), (4, .long v4), (6, .int v6)] [] h sz bc bs Q := by
  rw [c_X8_simulated_10] at hf
  refine sp_iload (pc := 10) dX8_simulated_10 3 rfl ?_
  refine sp_iload_n (pc := 12) dX8_simulated_12 1 rfl ?_
  refine sp_icmp_ge (pc := 13) (tgt := 44) dX8_simulated_13 (by decide) (fun c1 => ?_) (fun c1 => ?_)
  · rw [if_pos c1] at hf
    refine sp_sipush (pc := 44) (v := 1000) dX8_simulated_44 (by decide) ?_
    refine sp_aload_n (pc := 47) dX8_simulated_47 0 rfl ?_
    refine sp_iconst (pc := 48) (v := 0) dX8_simulated_48 (by decide) ?_
    refine sp_bipush (pc := 49) (v := 99) dX8_simulated_49 (by decide) ?_
    refine sp_iconst (pc := 51) (v := (-1)) dX8_simulated_51 (by decide) ?_
    obtain ⟨y2, ey2, hf⟩ := ob hf
    obtain ⟨fsy2, hoy2⟩ := o_X8_countSeen ey2
    refine sp_callVi (pc := 52) (z := M_X8_countSeen) (As := [.int 0, .int 99, .int (-1)]) (b := v0) (bc2 := bc) (bs2 := bs) (m_X8_countSeen (Q := _) (fun sz => ⟨y2, rfl, ?_⟩) ey2) rfl dX8_simulated_52 hoy2 rfl rfl ck_X8_simulated_100 (Nat.le_of_ble_eq_true rfl) rfl rfl rfl
    refine sp_imul (pc := 55) dX8_simulated_55 ?_
    refine sp_aload_n (pc := 56) dX8_simulated_56 0 rfl ?_
    obtain ⟨y3, ey3, hf⟩ := ob hf
    obtain ⟨fsy3, hoy3⟩ := o_X8_all ey3
    refine sp_callVi (pc := 57) (z := M_X8_all) (As := []) (b := v0) (bc2 := bc) (bs2 := bs) (m_X8_all (Q := _) (fun sz => ⟨y3, rfl, ?_⟩) ey3) rfl dX8_simulated_57 hoy3 rfl rfl ck_X8_simulated_54 (Nat.le_of_ble_eq_true rfl) rfl rfl rfl
    refine sp_iadd (pc := 60) dX8_simulated_60 ?_
    refine sp_istore (pc := 61) (lv' := [(6, .int ((1000 * y2) + y3)), (0, .ref v0), (3, .int v3), (4, .long v4)]) dX8_simulated_61 (by decide) rfl ?_
    refine sp_aload_n (pc := 63) dX8_simulated_63 1 rfl ?_
    obtain ⟨y4, ey4, hf⟩ := ob hf
    obtain ⟨fsy4, hoy4⟩ := o_X8_putBack ey4
    refine sp_callVv (pc := 64) (z := M_X8_putBack) (As := []) (b := v0) (bc2 := bc) (bs2 := bs) (m_X8_putBack (Q := _) (fun sz => ⟨(), rfl, ?_⟩) ey4) rfl dX8_simulated_64 hoy4 rfl rfl ck_X8_simulated_240 (Nat.le_of_ble_eq_true rfl) rfl rfl rfl
    refine sp_iload (pc := 67) dX8_simulated_67 0 rfl ?_
    obtain rfl := Option.some.inj hf
    exact sp_ireturn (pc := 69) dX8_simulated_69 rfl rfl (hQ _)
  · rw [if_neg c1] at hf
    refine sp_lload (pc := 16) dX8_simulated_16 2 rfl ?_
    refine sp_ldc2 (pc := 18) dX8_simulated_18 bk_1347 ?_
    refine sp_lmul (pc := 21) dX8_simulated_21 ?_
    refine sp_ldc2 (pc := 22) dX8_simulated_22 bk_1348 ?_
    refine sp_ladd (pc := 25) dX8_simulated_25 ?_
    refine sp_lstore (pc := 26) (lv' := [(4, .long ((v4 * 6364136223846793005) + 1442695040888963407)), (0, .ref v0), (3, .int v3), (6, .int v6)]) dX8_simulated_26 (by decide) rfl ?_
    refine sp_aload_n (pc := 28) dX8_simulated_28 1 rfl ?_
    refine sp_lload (pc := 29) dX8_simulated_29 0 rfl ?_
    refine sp_bipush (pc := 31) (v := 33) dX8_simulated_31 (by decide) ?_
    refine sp_lushrJ (pc := 33) dX8_simulated_33 ?_
    refine sp_l2i (pc := 34) dX8_simulated_34 ?_
    obtain ⟨y5, ey5, hf⟩ := ob hf
    obtain ⟨fsy5, hoy5⟩ := o_X8_turn ey5
    refine sp_callVv (pc := 35) (z := M_X8_turn) (As := [.int (Int64.toInt32 (jlushr ((v4 * 6364136223846793005) + 1442695040888963407) 33))]) (b := v0) (bc2 := bc) (bs2 := bs) (m_X8_turn (Q := _) (fun sz => ⟨(), rfl, ?_⟩) ey5) rfl dX8_simulated_35 hoy5 rfl rfl ck_X8_simulated_257 (Nat.le_of_ble_eq_true rfl) rfl rfl rfl
    refine sp_iinc (pc := 38) (v := v6 + 1) (lv' := [(6, .int (v6 + 1)), (4, .long ((v4 * 6364136223846793005) + 1442695040888963407)), (0, .ref v0), (3, .int v3)]) dX8_simulated_38 3 rfl rfl (by decide) rfl ?_
    refine sp_goto (pc := 41) (tgt := 10) dX8_simulated_41 (by decide) ?_
    exact sp_sub [2, 3, 1, 0] rfl (hk10 _ _ _ _ hf)

theorem w_X8_simulated_10 {l : Launch} {X : SCR} {Q : PST} {bc bs : Nat} {res : Int32 × HP} (hQ : ∀ sz', Q (.inl (some (.int res.1))) res.2 sz') {v0 : Nat} {v3 : Int32} : ∀ (n : Nat) {h : HP} {v4 : Int64} {v6 : Int32} {sz : Nat}, b_X8_simulated_10 v0 v3 n h v4 v6 = some res → SP l X M_X8_simulated 10 [(0, .ref v0), (3, .int v3), (4, .long v4), (6, .int v6)] [] h sz bc bs Q := by
  intro n
  induction n with
  | zero =>
    intro h v4 v6 sz hf
    rw [b_X8_simulated_10] at hf
    cases hf
  | succ n ih =>
    intro h v4 v6 sz hf
    rw [b_X8_simulated_10] at hf
    exact wc_X8_simulated_10 hQ (fun h v4 v6 sz hf => ih hf) hf

theorem w_X8_simulated_0 {l : Launch} {X : SCR} {Q : PST} {bc bs : Nat} {res : Int32 × HP} {h : HP} (hQ : ∀ sz', Q (.inl (some (.int res.1))) res.2 sz') {v0 : Nat} {v1 : Int64} {v3 : Int32} {sz : Nat} (hf : b_X8_simulated_0 v0 v1 v3 h  = some res) : SP l X M_X8_simulated 0 [(0, .ref v0), (1, .long v1), (3, .int v3)] [] h sz bc bs Q := by
  rw [b_X8_simulated_0] at hf
  refine sp_lload_n (pc := 0) dX8_simulated_0 1 rfl ?_
  refine sp_lstore (pc := 1) (lv' := [(4, .long v1), (0, .ref v0), (1, .long v1), (3, .int v3)]) dX8_simulated_1 (by decide) rfl ?_
  refine sp_aload_n (pc := 3) dX8_simulated_3 1 rfl ?_
  obtain ⟨y1, ey1, hf⟩ := ob hf
  obtain ⟨fsy1, hoy1⟩ := o_X8_putAside ey1
  refine sp_callVv (pc := 4) (z := M_X8_putAside) (As := []) (b := v0) (bc2 := bc) (bs2 := bs) (m_X8_putAside (Q := _) (fun sz => ⟨(), rfl, ?_⟩) ey1) rfl dX8_simulated_4 hoy1 rfl rfl ck_X8_simulated_234 (Nat.le_of_ble_eq_true rfl) rfl rfl rfl
  refine sp_iconst (pc := 7) (v := 0) dX8_simulated_7 (by decide) ?_
  refine sp_istore (pc := 8) (lv' := [(6, .int 0), (4, .long v1), (0, .ref v0), (1, .long v1), (3, .int v3)]) dX8_simulated_8 (by decide) rfl ?_
  exact sp_sub [2, 4, 1, 0] rfl (w_X8_simulated_10 hQ FU hf)

theorem o_X8_simulated {h : HP} {v0 : Nat} {v1 : Int64} {v3 : Int32} {res : Int32 × HP} (hf : f_X8_simulated h v0 v1 v3 = some res) : ∃ fs, h v0 = some (.inr (8, fs)) := by
  obtain ⟨u, eu, -⟩ := ob hf
  exact kO_spec eu

theorem m_X8_simulated {l : Launch} {Q : PST} {h : HP} {v0 : Nat} {v1 : Int64} {v3 : Int32} {sz : Nat} {res : Int32 × HP} (hQ : ∀ sz', Q (.inl (some (.int res.1))) res.2 sz') (hf : f_X8_simulated h v0 v1 v3 = some res) : MM l M_X8_simulated [.ref v0, .long v1, .int v3] h sz Q := by
  obtain ⟨u, eu, hf⟩ := ob hf
  exact MM_of wok_X8_simulated (by decide +kernel) (Nat.le_of_ble_eq_true rfl) ((w_X8_simulated_0 hQ hf))

theorem dX8_simulate_0 : decode (mB M_X8_simulate) 0 = .ok (.aload_n 0, 1) := by decide +kernel
theorem dX8_simulate_1 : decode (mB M_X8_simulate) 1 = .ok (.iload_n 3, 1) := by decide +kernel
theorem dX8_simulate_2 : decode (mB M_X8_simulate) 2 = .ok (.iconst 1, 1) := by decide +kernel
theorem dX8_simulate_3 : decode (mB M_X8_simulate) 3 = .ok (.bipush 60, 2) := by decide +kernel
theorem dX8_simulate_5 : decode (mB M_X8_simulate) 5 = .ok (.invokestatic 39, 3) := by decide +kernel
theorem dX8_simulate_8 : decode (mB M_X8_simulate) 8 = .ok (.ifCond .eq 7, 3) := by decide +kernel
theorem dX8_simulate_11 : decode (mB M_X8_simulate) 11 = .ok (.iconst 0, 1) := by decide +kernel
theorem dX8_simulate_12 : decode (mB M_X8_simulate) 12 = .ok (.goto 4, 3) := by decide +kernel
theorem dX8_simulate_15 : decode (mB M_X8_simulate) 15 = .ok (.iconst 1, 1) := by decide +kernel
theorem dX8_simulate_16 : decode (mB M_X8_simulate) 16 = .ok (.invokevirtual 124, 3) := by decide +kernel
theorem dX8_simulate_19 : decode (mB M_X8_simulate) 19 = .ok (.ifCond .eq 12, 3) := by decide +kernel
theorem dX8_simulate_22 : decode (mB M_X8_simulate) 22 = .ok (.aload_n 0, 1) := by decide +kernel
theorem dX8_simulate_23 : decode (mB M_X8_simulate) 23 = .ok (.lload_n 1, 1) := by decide +kernel
theorem dX8_simulate_24 : decode (mB M_X8_simulate) 24 = .ok (.iload_n 3, 1) := by decide +kernel
theorem dX8_simulate_25 : decode (mB M_X8_simulate) 25 = .ok (.invokevirtual 261, 3) := by decide +kernel
theorem dX8_simulate_28 : decode (mB M_X8_simulate) 28 = .ok (.goto 4, 3) := by decide +kernel
theorem dX8_simulate_31 : decode (mB M_X8_simulate) 31 = .ok (.iconst 0, 1) := by decide +kernel
theorem dX8_simulate_32 : decode (mB M_X8_simulate) 32 = .ok (.ireturn, 1) := by decide +kernel
def b_X8_simulate_16 (v0 : Nat) (v1 : Int64) (v3 : Int32) (h : HP) (s0 : Nat) (s1 : Int32) : Option (Int32 × HP) :=
  (f_X8_holds h s0 s1).bind fun y1 => if y1.1 = 0 then some (0, y1.2) else (f_X8_simulated y1.2 v0 v1 v3).bind fun y3 => some (y3.1, y3.2)
def b_X8_simulate_0 (v0 : Nat) (v1 : Int64) (v3 : Int32) (h : HP) : Option (Int32 × HP) :=
  (f_X8_in h v3 1 60).bind fun y1 => if y1 = 0 then b_X8_simulate_16 v0 v1 v3 h v0 1 else b_X8_simulate_16 v0 v1 v3 h v0 0
def f_X8_simulate (h : HP) (v0 : Nat) (v1 : Int64) (v3 : Int32) : Option (Int32 × HP) := (kO 8 h v0).bind fun _ => b_X8_simulate_0 v0 v1 v3 h
theorem w_X8_simulate_16 {l : Launch} {X : SCR} {Q : PST} {bc bs : Nat} {res : Int32 × HP} {h : HP} (hQ : ∀ sz', Q (.inl (some (.int res.1))) res.2 sz') {v0 : Nat} {v1 : Int64} {v3 : Int32} {s0 : Nat} {s1 : Int32} {sz : Nat} (hf : b_X8_simulate_16 v0 v1 v3 h s0 s1 = some res) : SP l X M_X8_simulate 16 [(0, .ref v0), (1, .long v1), (3, .int v3)] [.int s1, .ref s0] h sz bc bs Q := by
  rw [b_X8_simulate_16] at hf
  obtain ⟨y1, ey1, hf⟩ := ob hf
  obtain ⟨fsy1, hoy1⟩ := o_X8_holds ey1
  refine sp_callVi (pc := 16) (z := M_X8_holds) (As := [.int s1]) (b := s0) (bc2 := bc) (bs2 := bs) (m_X8_holds (Q := _) (fun sz => ⟨y1.1, rfl, ?_⟩) ey1) rfl dX8_simulate_16 hoy1 rfl rfl ck_X8_simulate_124 (Nat.le_of_ble_eq_true rfl) rfl rfl rfl
  refine sp_if_eq (pc := 19) (tgt := 31) dX8_simulate_19 (by decide) (fun c2 => ?_) (fun c2 => ?_)
  · rw [if_pos c2] at hf
    refine sp_iconst (pc := 31) (v := 0) dX8_simulate_31 (by decide) ?_
    obtain rfl := Option.some.inj hf
    exact sp_ireturn (pc := 32) dX8_simulate_32 rfl rfl (hQ _)
  · rw [if_neg c2] at hf
    refine sp_aload_n (pc := 22) dX8_simulate_22 0 rfl ?_
    refine sp_lload_n (pc := 23) dX8_simulate_23 1 rfl ?_
    refine sp_iload_n (pc := 24) dX8_simulate_24 2 rfl ?_
    obtain ⟨y3, ey3, hf⟩ := ob hf
    obtain ⟨fsy3, hoy3⟩ := o_X8_simulated ey3
    refine sp_callVi (pc := 25) (z := M_X8_simulated) (As := [.long v1, .int v3]) (b := v0) (bc2 := bc) (bs2 := bs) (m_X8_simulated (Q := _) (fun sz => ⟨y3.1, rfl, ?_⟩) ey3) rfl dX8_simulate_25 hoy3 rfl rfl ck_X8_simulate_261 (Nat.le_of_ble_eq_true rfl) rfl rfl rfl
    refine sp_goto (pc := 28) (tgt := 32) dX8_simulate_28 (by decide) ?_
    obtain rfl := Option.some.inj hf
    exact sp_ireturn (pc := 32) dX8_simulate_32 rfl rfl (hQ _)

theorem w_X8_simulate_0 {l : Launch} {X : SCR} {Q : PST} {bc bs : Nat} {res : Int32 × HP} {h : HP} (hQ : ∀ sz', Q (.inl (some (.int res.1))) res.2 sz') {v0 : Nat} {v1 : Int64} {v3 : Int32} {sz : Nat} (hf : b_X8_simulate_0 v0 v1 v3 h  = some res) : SP l X M_X8_simulate 0 [(0, .ref v0), (1, .long v1), (3, .int v3)] [] h sz bc bs Q := by
  rw [b_X8_simulate_0] at hf
  refine sp_aload_n (pc := 0) dX8_simulate_0 0 rfl ?_
  refine sp_iload_n (pc := 1) dX8_simulate_1 2 rfl ?_
  refine sp_iconst (pc := 2) (v := 1) dX8_simulate_2 (by decide) ?_
  refine sp_bipush (pc := 3) (v := 60) dX8_simulate_3 (by decide) ?_
  obtain ⟨y1, ey1, hf⟩ := ob hf
  refine sp_callSi (pc := 5) (z := M_X8_in) (As := [.int v3, .int 1, .int 60]) (bc2 := bc) (bs2 := bs) (m_X8_in (Q := _) (fun sz => ⟨y1, rfl, ?_⟩) ey1) rfl dX8_simulate_5 rfl ck_X8_simulate_39 (Nat.le_of_ble_eq_true rfl) rfl rfl rfl
  refine sp_if_eq (pc := 8) (tgt := 15) dX8_simulate_8 (by decide) (fun c2 => ?_) (fun c2 => ?_)
  · rw [if_pos c2] at hf
    refine sp_iconst (pc := 15) (v := 1) dX8_simulate_15 (by decide) ?_
    exact (w_X8_simulate_16 hQ hf)
  · rw [if_neg c2] at hf
    refine sp_iconst (pc := 11) (v := 0) dX8_simulate_11 (by decide) ?_
    refine sp_goto (pc := 12) (tgt := 16) dX8_simulate_12 (by decide) ?_
    exact (w_X8_simulate_16 hQ hf)

theorem o_X8_simulate {h : HP} {v0 : Nat} {v1 : Int64} {v3 : Int32} {res : Int32 × HP} (hf : f_X8_simulate h v0 v1 v3 = some res) : ∃ fs, h v0 = some (.inr (8, fs)) := by
  obtain ⟨u, eu, -⟩ := ob hf
  exact kO_spec eu

theorem m_X8_simulate {l : Launch} {Q : PST} {h : HP} {v0 : Nat} {v1 : Int64} {v3 : Int32} {sz : Nat} {res : Int32 × HP} (hQ : ∀ sz', Q (.inl (some (.int res.1))) res.2 sz') (hf : f_X8_simulate h v0 v1 v3 = some res) : MM l M_X8_simulate [.ref v0, .long v1, .int v3] h sz Q := by
  obtain ⟨u, eu, hf⟩ := ob hf
  exact MM_of wok_X8_simulate (by decide +kernel) (Nat.le_of_ble_eq_true rfl) ((w_X8_simulate_0 hQ hf))

theorem dX8_save_0 : decode (mB M_X8_save) 0 = .ok (.aload_n 0, 1) := by decide +kernel
theorem dX8_save_1 : decode (mB M_X8_save) 1 = .ok (.iload_n 1, 1) := by decide +kernel
theorem dX8_save_2 : decode (mB M_X8_save) 2 = .ok (.iconst 0, 1) := by decide +kernel
theorem dX8_save_3 : decode (mB M_X8_save) 3 = .ok (.iconst 1, 1) := by decide +kernel
theorem dX8_save_4 : decode (mB M_X8_save) 4 = .ok (.invokestatic 39, 3) := by decide +kernel
theorem dX8_save_7 : decode (mB M_X8_save) 7 = .ok (.ifCond .eq 7, 3) := by decide +kernel
theorem dX8_save_10 : decode (mB M_X8_save) 10 = .ok (.iconst 0, 1) := by decide +kernel
theorem dX8_save_11 : decode (mB M_X8_save) 11 = .ok (.goto 4, 3) := by decide +kernel
theorem dX8_save_14 : decode (mB M_X8_save) 14 = .ok (.iconst 1, 1) := by decide +kernel
theorem dX8_save_15 : decode (mB M_X8_save) 15 = .ok (.invokevirtual 124, 3) := by decide +kernel
theorem dX8_save_18 : decode (mB M_X8_save) 18 = .ok (.ifCond .ne 5, 3) := by decide +kernel
theorem dX8_save_21 : decode (mB M_X8_save) 21 = .ok (.iconst 0, 1) := by decide +kernel
theorem dX8_save_22 : decode (mB M_X8_save) 22 = .ok (.ireturn, 1) := by decide +kernel
theorem dX8_save_23 : decode (mB M_X8_save) 23 = .ok (.iconst 0, 1) := by decide +kernel
theorem dX8_save_24 : decode (mB M_X8_save) 24 = .ok (.istore_n 2, 1) := by decide +kernel
theorem dX8_save_25 : decode (mB M_X8_save) 25 = .ok (.iload_n 2, 1) := by decide +kernel
theorem dX8_save_26 : decode (mB M_X8_save) 26 = .ok (.sipush 204, 3) := by decide +kernel
theorem dX8_save_29 : decode (mB M_X8_save) 29 = .ok (.if_icmp .ge 27, 3) := by decide +kernel
theorem dX8_save_32 : decode (mB M_X8_save) 32 = .ok (.aload_n 0, 1) := by decide +kernel
theorem dX8_save_33 : decode (mB M_X8_save) 33 = .ok (.getfield 19, 3) := by decide +kernel
theorem dX8_save_36 : decode (mB M_X8_save) 36 = .ok (.sipush 204, 3) := by decide +kernel
theorem dX8_save_39 : decode (mB M_X8_save) 39 = .ok (.iload_n 1, 1) := by decide +kernel
theorem dX8_save_40 : decode (mB M_X8_save) 40 = .ok (.imul, 1) := by decide +kernel
theorem dX8_save_41 : decode (mB M_X8_save) 41 = .ok (.iload_n 2, 1) := by decide +kernel
theorem dX8_save_42 : decode (mB M_X8_save) 42 = .ok (.iadd, 1) := by decide +kernel
theorem dX8_save_43 : decode (mB M_X8_save) 43 = .ok (.aload_n 0, 1) := by decide +kernel
theorem dX8_save_44 : decode (mB M_X8_save) 44 = .ok (.getfield 7, 3) := by decide +kernel
theorem dX8_save_47 : decode (mB M_X8_save) 47 = .ok (.iload_n 2, 1) := by decide +kernel
theorem dX8_save_48 : decode (mB M_X8_save) 48 = .ok (.iaload, 1) := by decide +kernel
theorem dX8_save_49 : decode (mB M_X8_save) 49 = .ok (.iastore, 1) := by decide +kernel
theorem dX8_save_50 : decode (mB M_X8_save) 50 = .ok (.iinc 2 1, 3) := by decide +kernel
theorem dX8_save_53 : decode (mB M_X8_save) 53 = .ok (.goto (-28), 3) := by decide +kernel
theorem dX8_save_56 : decode (mB M_X8_save) 56 = .ok (.aload_n 0, 1) := by decide +kernel
theorem dX8_save_57 : decode (mB M_X8_save) 57 = .ok (.getfield 22, 3) := by decide +kernel
theorem dX8_save_60 : decode (mB M_X8_save) 60 = .ok (.iload_n 1, 1) := by decide +kernel
theorem dX8_save_61 : decode (mB M_X8_save) 61 = .ok (.iconst 1, 1) := by decide +kernel
theorem dX8_save_62 : decode (mB M_X8_save) 62 = .ok (.bastore, 1) := by decide +kernel
theorem dX8_save_63 : decode (mB M_X8_save) 63 = .ok (.aload_n 0, 1) := by decide +kernel
theorem dX8_save_64 : decode (mB M_X8_save) 64 = .ok (.invokevirtual 54, 3) := by decide +kernel
theorem dX8_save_67 : decode (mB M_X8_save) 67 = .ok (.ireturn, 1) := by decide +kernel
def c_X8_save_25 (v0 : Nat) (v1 : Int32) (k25 : HP → Int32 → Option (Int32 × HP)) (h : HP) (v2 : Int32) : Option (Int32 × HP) :=
  if 204 ≤ v2 then (gR 8 6 h v0).bind fun x2 => (wZ h x2 v1 1).bind fun h3 => (f_X8_all h3 v0).bind fun y4 => some (y4, h3) else (gR 8 5 h v0).bind fun x5 => (gR 8 1 h v0).bind fun x6 => (aI h x6 v2).bind fun x7 => (wI h x5 ((204 * v1) + v2) x7).bind fun h8 => k25 h8 (v2 + 1)
def b_X8_save_25 (v0 : Nat) (v1 : Int32) : Nat → HP → Int32 → Option (Int32 × HP)
  | 0, _, _ => none
  | n + 1, h, v2 => c_X8_save_25 v0 v1 (b_X8_save_25 v0 v1 n) h v2
def b_X8_save_15 (v0 : Nat) (v1 : Int32) (h : HP) (s0 : Nat) (s1 : Int32) : Option (Int32 × HP) :=
  (f_X8_holds h s0 s1).bind fun y1 => if y1.1 = 0 then some (0, y1.2) else b_X8_save_25 v0 v1 FU y1.2 0
def b_X8_save_0 (v0 : Nat) (v1 : Int32) (h : HP) : Option (Int32 × HP) :=
  (f_X8_in h v1 0 1).bind fun y1 => if y1 = 0 then b_X8_save_15 v0 v1 h v0 1 else b_X8_save_15 v0 v1 h v0 0
def f_X8_save (h : HP) (v0 : Nat) (v1 : Int32) : Option (Int32 × HP) := (kO 8 h v0).bind fun _ => b_X8_save_0 v0 v1 h
theorem wc_X8_save_25 {l : Launch} {X : SCR} {Q : PST} {bc bs : Nat} {res : Int32 × HP} (hQ : ∀ sz', Q (.inl (some (.int res.1))) res.2 sz') {v0 : Nat} {v1 : Int32} {k25 : HP → Int32 → Option (Int32 × HP)} (hk25 : ∀ (h : HP) (v2 : Int32) (sz : Nat), k25 h v2 = some res → SP l X M_X8_save 25 [(0, .ref v0), (1, .int v1), (2, .int v2)] [] h sz bc bs Q) {h : HP} {v2 : Int32} {sz : Nat} (hf : c_X8_save_25 v0 v1 k25 h v2 = some res) : SP l X M_X8_save 25 [(0, .ref v0), (1, .int v1), (2, .int v2)] [] h sz bc bs Q := by
  rw [c_X8_save_25] at hf
  refine sp_iload_n (pc := 25) dX8_save_25 2 rfl ?_
  refine sp_sipush (pc := 26) (v := 204) dX8_save_26 (by decide) ?_
  refine sp_icmp_ge (pc := 29) (tgt := 56) dX8_save_29 (by decide) (fun c1 => ?_) (fun c1 => ?_)
  · rw [if_pos c1] at hf
    refine sp_aload_n (pc := 56) dX8_save_56 0 rfl ?_
    obtain ⟨x2, ex2, hf⟩ := ob hf
    refine sp_gR (pc := 57) fl_RX8_22 dX8_save_57 ex2 ?_
    refine sp_iload_n (pc := 60) dX8_save_60 1 rfl ?_
    refine sp_iconst (pc := 61) (v := 1) dX8_save_61 (by decide) ?_
    obtain ⟨h3, eh3, hf⟩ := ob hf
    refine sp_wZ (pc := 62) dX8_save_62 eh3 (fun sz => ?_)
    refine sp_aload_n (pc := 63) dX8_save_63 0 rfl ?_
    obtain ⟨y4, ey4, hf⟩ := ob hf
    obtain ⟨fsy4, hoy4⟩ := o_X8_all ey4
    refine sp_callVi (pc := 64) (z := M_X8_all) (As := []) (b := v0) (bc2 := bc) (bs2 := bs) (m_X8_all (Q := _) (fun sz => ⟨y4, rfl, ?_⟩) ey4) rfl dX8_save_64 hoy4 rfl rfl ck_X8_save_54 (Nat.le_of_ble_eq_true rfl) rfl rfl rfl
    obtain rfl := Option.some.inj hf
    exact sp_ireturn (pc := 67) dX8_save_67 rfl rfl (hQ _)
  · rw [if_neg c1] at hf
    refine sp_aload_n (pc := 32) dX8_save_32 0 rfl ?_
    obtain ⟨x5, ex5, hf⟩ := ob hf
    refine sp_gR (pc := 33) fl_RX8_19 dX8_save_33 ex5 ?_
    refine sp_sipush (pc := 36) (v := 204) dX8_save_36 (by decide) ?_
    refine sp_iload_n (pc := 39) dX8_save_39 1 rfl ?_
    refine sp_imul (pc := 40) dX8_save_40 ?_
    refine sp_iload_n (pc := 41) dX8_save_41 2 rfl ?_
    refine sp_iadd (pc := 42) dX8_save_42 ?_
    refine sp_aload_n (pc := 43) dX8_save_43 0 rfl ?_
    obtain ⟨x6, ex6, hf⟩ := ob hf
    refine sp_gR (pc := 44) fl_RX8_7 dX8_save_44 ex6 ?_
    refine sp_iload_n (pc := 47) dX8_save_47 2 rfl ?_
    obtain ⟨x7, ex7, hf⟩ := ob hf
    refine sp_aI (pc := 48) dX8_save_48 ex7 ?_
    obtain ⟨h8, eh8, hf⟩ := ob hf
    refine sp_wI (pc := 49) dX8_save_49 eh8 (fun sz => ?_)
    refine sp_iinc (pc := 50) (v := v2 + 1) (lv' := [(2, .int (v2 + 1)), (0, .ref v0), (1, .int v1)]) dX8_save_50 2 rfl rfl (by decide) rfl ?_
    refine sp_goto (pc := 53) (tgt := 25) dX8_save_53 (by decide) ?_
    exact sp_sub [1, 2, 0] rfl (hk25 _ _ _ hf)

theorem w_X8_save_25 {l : Launch} {X : SCR} {Q : PST} {bc bs : Nat} {res : Int32 × HP} (hQ : ∀ sz', Q (.inl (some (.int res.1))) res.2 sz') {v0 : Nat} {v1 : Int32} : ∀ (n : Nat) {h : HP} {v2 : Int32} {sz : Nat}, b_X8_save_25 v0 v1 n h v2 = some res → SP l X M_X8_save 25 [(0, .ref v0), (1, .int v1), (2, .int v2)] [] h sz bc bs Q := by
  intro n
  induction n with
  | zero =>
    intro h v2 sz hf
    rw [b_X8_save_25] at hf
    cases hf
  | succ n ih =>
    intro h v2 sz hf
    rw [b_X8_save_25] at hf
    exact wc_X8_save_25 hQ (fun h v2 sz hf => ih hf) hf

theorem w_X8_save_15 {l : Launch} {X : SCR} {Q : PST} {bc bs : Nat} {res : Int32 × HP} {h : HP} (hQ : ∀ sz', Q (.inl (some (.int res.1))) res.2 sz') {v0 : Nat} {v1 : Int32} {s0 : Nat} {s1 : Int32} {sz : Nat} (hf : b_X8_save_15 v0 v1 h s0 s1 = some res) : SP l X M_X8_save 15 [(0, .ref v0), (1, .int v1)] [.int s1, .ref s0] h sz bc bs Q := by
  rw [b_X8_save_15] at hf
  obtain ⟨y1, ey1, hf⟩ := ob hf
  obtain ⟨fsy1, hoy1⟩ := o_X8_holds ey1
  refine sp_callVi (pc := 15) (z := M_X8_holds) (As := [.int s1]) (b := s0) (bc2 := bc) (bs2 := bs) (m_X8_holds (Q := _) (fun sz => ⟨y1.1, rfl, ?_⟩) ey1) rfl dX8_save_15 hoy1 rfl rfl ck_X8_save_124 (Nat.le_of_ble_eq_true rfl) rfl rfl rfl
  refine sp_if_ne (pc := 18) (tgt := 23) dX8_save_18 (by decide) (fun c2 => ?_) (fun c2 => ?_)
  · rw [if_neg c2] at hf
    refine sp_iconst (pc := 23) (v := 0) dX8_save_23 (by decide) ?_
    refine sp_istore_n (pc := 24) (lv' := [(2, .int 0), (0, .ref v0), (1, .int v1)]) dX8_save_24 (by decide) rfl ?_
    exact sp_sub [1, 2, 0] rfl (w_X8_save_25 hQ FU hf)
  · rw [if_pos c2] at hf
    refine sp_iconst (pc := 21) (v := 0) dX8_save_21 (by decide) ?_
    obtain rfl := Option.some.inj hf
    exact sp_ireturn (pc := 22) dX8_save_22 rfl rfl (hQ _)

theorem w_X8_save_0 {l : Launch} {X : SCR} {Q : PST} {bc bs : Nat} {res : Int32 × HP} {h : HP} (hQ : ∀ sz', Q (.inl (some (.int res.1))) res.2 sz') {v0 : Nat} {v1 : Int32} {sz : Nat} (hf : b_X8_save_0 v0 v1 h  = some res) : SP l X M_X8_save 0 [(0, .ref v0), (1, .int v1)] [] h sz bc bs Q := by
  rw [b_X8_save_0] at hf
  refine sp_aload_n (pc := 0) dX8_save_0 0 rfl ?_
  refine sp_iload_n (pc := 1) dX8_save_1 1 rfl ?_
  refine sp_iconst (pc := 2) (v := 0) dX8_save_2 (by decide) ?_
  refine sp_iconst (pc := 3) (v := 1) dX8_save_3 (by decide) ?_
  obtain ⟨y1, ey1, hf⟩ := ob hf
  refine sp_callSi (pc := 4) (z := M_X8_in) (As := [.int v1, .int 0, .int 1]) (bc2 := bc) (bs2 := bs) (m_X8_in (Q := _) (fun sz => ⟨y1, rfl, ?_⟩) ey1) rfl dX8_save_4 rfl ck_X8_save_39 (Nat.le_of_ble_eq_true rfl) rfl rfl rfl
  refine sp_if_eq (pc := 7) (tgt := 14) dX8_save_7 (by decide) (fun c2 => ?_) (fun c2 => ?_)
  · rw [if_pos c2] at hf
    refine sp_iconst (pc := 14) (v := 1) dX8_save_14 (by decide) ?_
    exact (w_X8_save_15 hQ hf)
  · rw [if_neg c2] at hf
    refine sp_iconst (pc := 10) (v := 0) dX8_save_10 (by decide) ?_
    refine sp_goto (pc := 11) (tgt := 15) dX8_save_11 (by decide) ?_
    exact (w_X8_save_15 hQ hf)

theorem o_X8_save {h : HP} {v0 : Nat} {v1 : Int32} {res : Int32 × HP} (hf : f_X8_save h v0 v1 = some res) : ∃ fs, h v0 = some (.inr (8, fs)) := by
  obtain ⟨u, eu, -⟩ := ob hf
  exact kO_spec eu

theorem m_X8_save {l : Launch} {Q : PST} {h : HP} {v0 : Nat} {v1 : Int32} {sz : Nat} {res : Int32 × HP} (hQ : ∀ sz', Q (.inl (some (.int res.1))) res.2 sz') (hf : f_X8_save h v0 v1 = some res) : MM l M_X8_save [.ref v0, .int v1] h sz Q := by
  obtain ⟨u, eu, hf⟩ := ob hf
  exact MM_of wok_X8_save (by decide +kernel) (Nat.le_of_ble_eq_true rfl) ((w_X8_save_0 hQ hf))

theorem dX8_restore_0 : decode (mB M_X8_restore) 0 = .ok (.aload_n 0, 1) := by decide +kernel
theorem dX8_restore_1 : decode (mB M_X8_restore) 1 = .ok (.iload_n 1, 1) := by decide +kernel
theorem dX8_restore_2 : decode (mB M_X8_restore) 2 = .ok (.iconst 0, 1) := by decide +kernel
theorem dX8_restore_3 : decode (mB M_X8_restore) 3 = .ok (.iconst 1, 1) := by decide +kernel
theorem dX8_restore_4 : decode (mB M_X8_restore) 4 = .ok (.invokestatic 39, 3) := by decide +kernel
theorem dX8_restore_7 : decode (mB M_X8_restore) 7 = .ok (.ifCond .ne 7, 3) := by decide +kernel
theorem dX8_restore_10 : decode (mB M_X8_restore) 10 = .ok (.iconst 1, 1) := by decide +kernel
theorem dX8_restore_11 : decode (mB M_X8_restore) 11 = .ok (.goto 17, 3) := by decide +kernel
theorem dX8_restore_14 : decode (mB M_X8_restore) 14 = .ok (.aload_n 0, 1) := by decide +kernel
theorem dX8_restore_15 : decode (mB M_X8_restore) 15 = .ok (.getfield 22, 3) := by decide +kernel
theorem dX8_restore_18 : decode (mB M_X8_restore) 18 = .ok (.iload_n 1, 1) := by decide +kernel
theorem dX8_restore_19 : decode (mB M_X8_restore) 19 = .ok (.baload, 1) := by decide +kernel
theorem dX8_restore_20 : decode (mB M_X8_restore) 20 = .ok (.ifCond .eq 7, 3) := by decide +kernel
theorem dX8_restore_23 : decode (mB M_X8_restore) 23 = .ok (.iconst 0, 1) := by decide +kernel
theorem dX8_restore_24 : decode (mB M_X8_restore) 24 = .ok (.goto 4, 3) := by decide +kernel
theorem dX8_restore_27 : decode (mB M_X8_restore) 27 = .ok (.iconst 2, 1) := by decide +kernel
theorem dX8_restore_28 : decode (mB M_X8_restore) 28 = .ok (.invokevirtual 124, 3) := by decide +kernel
theorem dX8_restore_31 : decode (mB M_X8_restore) 31 = .ok (.ifCond .ne 5, 3) := by decide +kernel
theorem dX8_restore_34 : decode (mB M_X8_restore) 34 = .ok (.iconst 0, 1) := by decide +kernel
theorem dX8_restore_35 : decode (mB M_X8_restore) 35 = .ok (.ireturn, 1) := by decide +kernel
theorem dX8_restore_36 : decode (mB M_X8_restore) 36 = .ok (.iconst 0, 1) := by decide +kernel
theorem dX8_restore_37 : decode (mB M_X8_restore) 37 = .ok (.istore_n 2, 1) := by decide +kernel
theorem dX8_restore_38 : decode (mB M_X8_restore) 38 = .ok (.iload_n 2, 1) := by decide +kernel
theorem dX8_restore_39 : decode (mB M_X8_restore) 39 = .ok (.sipush 204, 3) := by decide +kernel
theorem dX8_restore_42 : decode (mB M_X8_restore) 42 = .ok (.if_icmp .ge 27, 3) := by decide +kernel
theorem dX8_restore_45 : decode (mB M_X8_restore) 45 = .ok (.aload_n 0, 1) := by decide +kernel
theorem dX8_restore_46 : decode (mB M_X8_restore) 46 = .ok (.getfield 7, 3) := by decide +kernel
theorem dX8_restore_49 : decode (mB M_X8_restore) 49 = .ok (.iload_n 2, 1) := by decide +kernel
theorem dX8_restore_50 : decode (mB M_X8_restore) 50 = .ok (.aload_n 0, 1) := by decide +kernel
theorem dX8_restore_51 : decode (mB M_X8_restore) 51 = .ok (.getfield 19, 3) := by decide +kernel
theorem dX8_restore_54 : decode (mB M_X8_restore) 54 = .ok (.sipush 204, 3) := by decide +kernel
theorem dX8_restore_57 : decode (mB M_X8_restore) 57 = .ok (.iload_n 1, 1) := by decide +kernel
theorem dX8_restore_58 : decode (mB M_X8_restore) 58 = .ok (.imul, 1) := by decide +kernel
theorem dX8_restore_59 : decode (mB M_X8_restore) 59 = .ok (.iload_n 2, 1) := by decide +kernel
theorem dX8_restore_60 : decode (mB M_X8_restore) 60 = .ok (.iadd, 1) := by decide +kernel
theorem dX8_restore_61 : decode (mB M_X8_restore) 61 = .ok (.iaload, 1) := by decide +kernel
theorem dX8_restore_62 : decode (mB M_X8_restore) 62 = .ok (.iastore, 1) := by decide +kernel
theorem dX8_restore_63 : decode (mB M_X8_restore) 63 = .ok (.iinc 2 1, 3) := by decide +kernel
theorem dX8_restore_66 : decode (mB M_X8_restore) 66 = .ok (.goto (-28), 3) := by decide +kernel
theorem dX8_restore_69 : decode (mB M_X8_restore) 69 = .ok (.aload_n 0, 1) := by decide +kernel
theorem dX8_restore_70 : decode (mB M_X8_restore) 70 = .ok (.iconst 0, 1) := by decide +kernel
theorem dX8_restore_71 : decode (mB M_X8_restore) 71 = .ok (.putfield 43, 3) := by decide +kernel
theorem dX8_restore_74 : decode (mB M_X8_restore) 74 = .ok (.aload_n 0, 1) := by decide +kernel
theorem dX8_restore_75 : decode (mB M_X8_restore) 75 = .ok (.invokevirtual 54, 3) := by decide +kernel
theorem dX8_restore_78 : decode (mB M_X8_restore) 78 = .ok (.ireturn, 1) := by decide +kernel
def c_X8_restore_38 (v0 : Nat) (v1 : Int32) (k38 : HP → Int32 → Option (Int32 × HP)) (h : HP) (v2 : Int32) : Option (Int32 × HP) :=
  if 204 ≤ v2 then (pI 8 4 h v0 0).bind fun h2 => (f_X8_all h2 v0).bind fun y3 => some (y3, h2) else (gR 8 1 h v0).bind fun x4 => (gR 8 5 h v0).bind fun x5 => (aI h x5 ((204 * v1) + v2)).bind fun x6 => (wI h x4 v2 x6).bind fun h7 => k38 h7 (v2 + 1)
def b_X8_restore_38 (v0 : Nat) (v1 : Int32) : Nat → HP → Int32 → Option (Int32 × HP)
  | 0, _, _ => none
  | n + 1, h, v2 => c_X8_restore_38 v0 v1 (b_X8_restore_38 v0 v1 n) h v2
def b_X8_restore_28 (v0 : Nat) (v1 : Int32) (h : HP) (s0 : Nat) (s1 : Int32) : Option (Int32 × HP) :=
  (f_X8_holds h s0 s1).bind fun y1 => if y1.1 = 0 then some (0, y1.2) else b_X8_restore_38 v0 v1 FU y1.2 0
def b_X8_restore_0 (v0 : Nat) (v1 : Int32) (h : HP) : Option (Int32 × HP) :=
  (f_X8_in h v1 0 1).bind fun y1 => if y1 = 0 then b_X8_restore_28 v0 v1 h v0 1 else (gR 8 6 h v0).bind fun x3 => (aZ h x3 v1).bind fun x4 => if x4 = 0 then b_X8_restore_28 v0 v1 h v0 2 else b_X8_restore_28 v0 v1 h v0 0
def f_X8_restore (h : HP) (v0 : Nat) (v1 : Int32) : Option (Int32 × HP) := (kO 8 h v0).bind fun _ => b_X8_restore_0 v0 v1 h
theorem wc_X8_restore_38 {l : Launch} {X : SCR} {Q : PST} {bc bs : Nat} {res : Int32 × HP} (hQ : ∀ sz', Q (.inl (some (.int res.1))) res.2 sz') {v0 : Nat} {v1 : Int32} {k38 : HP → Int32 → Option (Int32 × HP)} (hk38 : ∀ (h : HP) (v2 : Int32) (sz : Nat), k38 h v2 = some res → SP l X M_X8_restore 38 [(0, .ref v0), (1, .int v1), (2, .int v2)] [] h sz bc bs Q) {h : HP} {v2 : Int32} {sz : Nat} (hf : c_X8_restore_38 v0 v1 k38 h v2 = some res) : SP l X M_X8_restore 38 [(0, .ref v0), (1, .int v1), (2, .int v2)] [] h sz bc bs Q := by
  rw [c_X8_restore_38] at hf
  refine sp_iload_n (pc := 38) dX8_restore_38 2 rfl ?_
  refine sp_sipush (pc := 39) (v := 204) dX8_restore_39 (by decide) ?_
  refine sp_icmp_ge (pc := 42) (tgt := 69) dX8_restore_42 (by decide) (fun c1 => ?_) (fun c1 => ?_)
  · rw [if_pos c1] at hf
    refine sp_aload_n (pc := 69) dX8_restore_69 0 rfl ?_
    refine sp_iconst (pc := 70) (v := 0) dX8_restore_70 (by decide) ?_
    obtain ⟨h2, eh2, hf⟩ := ob hf
    refine sp_pI (pc := 71) pf_RX8_43 dX8_restore_71 eh2 (fun sz => ?_)
    refine sp_aload_n (pc := 74) dX8_restore_74 0 rfl ?_
    obtain ⟨y3, ey3, hf⟩ := ob hf
    obtain ⟨fsy3, hoy3⟩ := o_X8_all ey3
    refine sp_callVi (pc := 75) (z := M_X8_all) (As := []) (b := v0) (bc2 := bc) (bs2 := bs) (m_X8_all (Q := _) (fun sz => ⟨y3, rfl, ?_⟩) ey3) rfl dX8_restore_75 hoy3 rfl rfl ck_X8_restore_54 (Nat.le_of_ble_eq_true rfl) rfl rfl rfl
    obtain rfl := Option.some.inj hf
    exact sp_ireturn (pc := 78) dX8_restore_78 rfl rfl (hQ _)
  · rw [if_neg c1] at hf
    refine sp_aload_n (pc := 45) dX8_restore_45 0 rfl ?_
    obtain ⟨x4, ex4, hf⟩ := ob hf
    refine sp_gR (pc := 46) fl_RX8_7 dX8_restore_46 ex4 ?_
    refine sp_iload_n (pc := 49) dX8_restore_49 2 rfl ?_
    refine sp_aload_n (pc := 50) dX8_restore_50 0 rfl ?_
    obtain ⟨x5, ex5, hf⟩ := ob hf
    refine sp_gR (pc := 51) fl_RX8_19 dX8_restore_51 ex5 ?_
    refine sp_sipush (pc := 54) (v := 204) dX8_restore_54 (by decide) ?_
    refine sp_iload_n (pc := 57) dX8_restore_57 1 rfl ?_
    refine sp_imul (pc := 58) dX8_restore_58 ?_
    refine sp_iload_n (pc := 59) dX8_restore_59 2 rfl ?_
    refine sp_iadd (pc := 60) dX8_restore_60 ?_
    obtain ⟨x6, ex6, hf⟩ := ob hf
    refine sp_aI (pc := 61) dX8_restore_61 ex6 ?_
    obtain ⟨h7, eh7, hf⟩ := ob hf
    refine sp_wI (pc := 62) dX8_restore_62 eh7 (fun sz => ?_)
    refine sp_iinc (pc := 63) (v := v2 + 1) (lv' := [(2, .int (v2 + 1)), (0, .ref v0), (1, .int v1)]) dX8_restore_63 2 rfl rfl (by decide) rfl ?_
    refine sp_goto (pc := 66) (tgt := 38) dX8_restore_66 (by decide) ?_
    exact sp_sub [1, 2, 0] rfl (hk38 _ _ _ hf)

theorem w_X8_restore_38 {l : Launch} {X : SCR} {Q : PST} {bc bs : Nat} {res : Int32 × HP} (hQ : ∀ sz', Q (.inl (some (.int res.1))) res.2 sz') {v0 : Nat} {v1 : Int32} : ∀ (n : Nat) {h : HP} {v2 : Int32} {sz : Nat}, b_X8_restore_38 v0 v1 n h v2 = some res → SP l X M_X8_restore 38 [(0, .ref v0), (1, .int v1), (2, .int v2)] [] h sz bc bs Q := by
  intro n
  induction n with
  | zero =>
    intro h v2 sz hf
    rw [b_X8_restore_38] at hf
    cases hf
  | succ n ih =>
    intro h v2 sz hf
    rw [b_X8_restore_38] at hf
    exact wc_X8_restore_38 hQ (fun h v2 sz hf => ih hf) hf

theorem w_X8_restore_28 {l : Launch} {X : SCR} {Q : PST} {bc bs : Nat} {res : Int32 × HP} {h : HP} (hQ : ∀ sz', Q (.inl (some (.int res.1))) res.2 sz') {v0 : Nat} {v1 : Int32} {s0 : Nat} {s1 : Int32} {sz : Nat} (hf : b_X8_restore_28 v0 v1 h s0 s1 = some res) : SP l X M_X8_restore 28 [(0, .ref v0), (1, .int v1)] [.int s1, .ref s0] h sz bc bs Q := by
  rw [b_X8_restore_28] at hf
  obtain ⟨y1, ey1, hf⟩ := ob hf
  obtain ⟨fsy1, hoy1⟩ := o_X8_holds ey1
  refine sp_callVi (pc := 28) (z := M_X8_holds) (As := [.int s1]) (b := s0) (bc2 := bc) (bs2 := bs) (m_X8_holds (Q := _) (fun sz => ⟨y1.1, rfl, ?_⟩) ey1) rfl dX8_restore_28 hoy1 rfl rfl ck_X8_restore_124 (Nat.le_of_ble_eq_true rfl) rfl rfl rfl
  refine sp_if_ne (pc := 31) (tgt := 36) dX8_restore_31 (by decide) (fun c2 => ?_) (fun c2 => ?_)
  · rw [if_neg c2] at hf
    refine sp_iconst (pc := 36) (v := 0) dX8_restore_36 (by decide) ?_
    refine sp_istore_n (pc := 37) (lv' := [(2, .int 0), (0, .ref v0), (1, .int v1)]) dX8_restore_37 (by decide) rfl ?_
    exact sp_sub [1, 2, 0] rfl (w_X8_restore_38 hQ FU hf)
  · rw [if_pos c2] at hf
    refine sp_iconst (pc := 34) (v := 0) dX8_restore_34 (by decide) ?_
    obtain rfl := Option.some.inj hf
    exact sp_ireturn (pc := 35) dX8_restore_35 rfl rfl (hQ _)

theorem w_X8_restore_0 {l : Launch} {X : SCR} {Q : PST} {bc bs : Nat} {res : Int32 × HP} {h : HP} (hQ : ∀ sz', Q (.inl (some (.int res.1))) res.2 sz') {v0 : Nat} {v1 : Int32} {sz : Nat} (hf : b_X8_restore_0 v0 v1 h  = some res) : SP l X M_X8_restore 0 [(0, .ref v0), (1, .int v1)] [] h sz bc bs Q := by
  rw [b_X8_restore_0] at hf
  refine sp_aload_n (pc := 0) dX8_restore_0 0 rfl ?_
  refine sp_iload_n (pc := 1) dX8_restore_1 1 rfl ?_
  refine sp_iconst (pc := 2) (v := 0) dX8_restore_2 (by decide) ?_
  refine sp_iconst (pc := 3) (v := 1) dX8_restore_3 (by decide) ?_
  obtain ⟨y1, ey1, hf⟩ := ob hf
  refine sp_callSi (pc := 4) (z := M_X8_in) (As := [.int v1, .int 0, .int 1]) (bc2 := bc) (bs2 := bs) (m_X8_in (Q := _) (fun sz => ⟨y1, rfl, ?_⟩) ey1) rfl dX8_restore_4 rfl ck_X8_restore_39 (Nat.le_of_ble_eq_true rfl) rfl rfl rfl
  refine sp_if_ne (pc := 7) (tgt := 14) dX8_restore_7 (by decide) (fun c2 => ?_) (fun c2 => ?_)
  · rw [if_neg c2] at hf
    refine sp_aload_n (pc := 14) dX8_restore_14 0 rfl ?_
    obtain ⟨x3, ex3, hf⟩ := ob hf
    refine sp_gR (pc := 15) fl_RX8_22 dX8_restore_15 ex3 ?_
    refine sp_iload_n (pc := 18) dX8_restore_18 1 rfl ?_
    obtain ⟨x4, ex4, hf⟩ := ob hf
    refine sp_aZ (pc := 19) dX8_restore_19 ex4 ?_
    refine sp_if_eq (pc := 20) (tgt := 27) dX8_restore_20 (by decide) (fun c5 => ?_) (fun c5 => ?_)
    · rw [if_pos c5] at hf
      refine sp_iconst (pc := 27) (v := 2) dX8_restore_27 (by decide) ?_
      exact (w_X8_restore_28 hQ hf)
    · rw [if_neg c5] at hf
      refine sp_iconst (pc := 23) (v := 0) dX8_restore_23 (by decide) ?_
      refine sp_goto (pc := 24) (tgt := 28) dX8_restore_24 (by decide) ?_
      exact (w_X8_restore_28 hQ hf)
  · rw [if_pos c2] at hf
    refine sp_iconst (pc := 10) (v := 1) dX8_restore_10 (by decide) ?_
    refine sp_goto (pc := 11) (tgt := 28) dX8_restore_11 (by decide) ?_
    exact (w_X8_restore_28 hQ hf)

theorem o_X8_restore {h : HP} {v0 : Nat} {v1 : Int32} {res : Int32 × HP} (hf : f_X8_restore h v0 v1 = some res) : ∃ fs, h v0 = some (.inr (8, fs)) := by
  obtain ⟨u, eu, -⟩ := ob hf
  exact kO_spec eu

theorem m_X8_restore {l : Launch} {Q : PST} {h : HP} {v0 : Nat} {v1 : Int32} {sz : Nat} {res : Int32 × HP} (hQ : ∀ sz', Q (.inl (some (.int res.1))) res.2 sz') (hf : f_X8_restore h v0 v1 = some res) : MM l M_X8_restore [.ref v0, .int v1] h sz Q := by
  obtain ⟨u, eu, hf⟩ := ob hf
  exact MM_of wok_X8_restore (by decide +kernel) (Nat.le_of_ble_eq_true rfl) ((w_X8_restore_0 hQ hf))

