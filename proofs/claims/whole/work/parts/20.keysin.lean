/-! RangeGraves$Store.keysIn: it makes a set of keys, and lets it go; what it answers doesn't depend on where it lies -/
def hle (h h' : HP) : Prop := ∀ a e, h a = some e → h' a = some e
theorem hle_kO {h h' : HP} (H : hle h h') {ci a : Nat} {u : Unit} (e : kO ci h a = some u) : kO ci h' a = some u := by
  obtain ⟨fs, hf⟩ := kO_spec e
  unfold kO at e ⊢
  rw [H _ _ hf]
  rw [hf] at e
  exact e
theorem hle_gI {h h' : HP} (H : hle h h') {ci k a : Nat} {x : Int32} (e : gI ci k h a = some x) : gI ci k h' a = some x := by
  obtain ⟨fs, hf, -⟩ := gI_spec e
  unfold gI at e ⊢
  rw [H _ _ hf]
  rw [hf] at e
  exact e
theorem hle_gR {h h' : HP} (H : hle h h') {ci k a x : Nat} (e : gR ci k h a = some x) : gR ci k h' a = some x := by
  obtain ⟨fs, hf, -⟩ := gR_spec e
  unfold gR at e ⊢
  rw [H _ _ hf]
  rw [hf] at e
  exact e
theorem hle_aI {h h' : HP} (H : hle h h') {a : Nat} {i x : Int32} (e : aI h a i = some x) : aI h' a i = some x := by
  obtain ⟨n, f, hf, -⟩ := aI_spec e
  unfold aI at e ⊢
  rw [H _ _ hf]
  rw [hf] at e
  exact e
theorem bo {α β : Type} {o : Option α} {f : α → Option β} {r : β} {x : α} (h1 : o = some x) (h2 : f x = some r) : o.bind f = some r := by
  rw [h1]
  exact h2
theorem hle_X6_size {h h' : HP} (H : hle h h') {a : Nat} {x : Int32} (e : f_X6_size h a = some x) : f_X6_size h' a = some x := by
  obtain ⟨u, eu, e⟩ := ob e
  refine bo (hle_kO H eu) ?_
  unfold b_X6_size_0 at e ⊢
  obtain ⟨x1, e1, e⟩ := ob e
  exact bo (hle_gI H e1) e
theorem hle_X3_endOf {h h' : HP} (H : hle h h') {a : Nat} {p x : Int32} (e : f_X3_endOf h a p = some x) : f_X3_endOf h' a p = some x := by
  have h30 : ∀ {x : Int32}, b_X3_endOf_30 h a = some x → b_X3_endOf_30 h' a = some x := by
    intro x e
    unfold b_X3_endOf_30 at e ⊢
    obtain ⟨x1, e1, e⟩ := ob e
    obtain ⟨x2, e2, e⟩ := ob e
    exact bo (hle_gR H e1) (bo (hle_X6_size H e2) e)
  obtain ⟨u, eu, e⟩ := ob e
  refine bo (hle_kO H eu) ?_
  unfold b_X3_endOf_0 at e ⊢
  obtain ⟨x1, e1, e⟩ := ob e
  refine bo (hle_gI H e1) ?_
  split at e
  · rename_i c
    rw [if_pos c]
    exact h30 e
  · rename_i c
    rw [if_neg c]
    obtain ⟨x3, e3, e⟩ := ob e
    refine bo (hle_gI H e3) ?_
    split at e
    · rename_i c
      rw [if_pos c]
      exact h30 e
    · rename_i c
      rw [if_neg c]
      obtain ⟨x5, e5, e⟩ := ob e
      obtain ⟨x6, e6, e⟩ := ob e
      exact bo (hle_gR H e5) (bo (hle_aI H e6) e)
theorem hle_X3_startOf {h h' : HP} (H : hle h h') {a : Nat} {p x : Int32} (e : f_X3_startOf h a p = some x) : f_X3_startOf h' a p = some x := by
  obtain ⟨u, eu, e⟩ := ob e
  refine bo (hle_kO H eu) ?_
  unfold b_X3_startOf_0 at e ⊢
  obtain ⟨x1, e1, e⟩ := ob e
  refine bo (hle_gI H e1) ?_
  split at e
  · rename_i c
    rw [if_pos c]
    exact e
  · rename_i c
    rw [if_neg c]
    obtain ⟨x3, e3, e⟩ := ob e
    refine bo (hle_gI H e3) ?_
    split at e
    · rename_i c
      rw [if_pos c]
      exact e
    · rename_i c
      rw [if_neg c]
      obtain ⟨x5, e5, e⟩ := ob e
      obtain ⟨x6, e6, e⟩ := ob e
      exact bo (hle_gR H e5) (bo (hle_aI H e6) e)
theorem hle_X6_firstAt {h h' : HP} (H : hle h h') {a : Nat} {p x : Int32} (e : f_X6_firstAt h a p = some x) : f_X6_firstAt h' a p = some x := by
  obtain ⟨u, eu, e⟩ := ob e
  refine bo (hle_kO H eu) ?_
  unfold b_X6_firstAt_0 at e ⊢
  split at e
  · rename_i c
    rw [if_pos c]
    exact e
  · rename_i c
    rw [if_neg c]
    obtain ⟨x3, e3, e⟩ := ob e
    refine bo (hle_gI H e3) ?_
    split at e
    · rename_i c
      rw [if_pos c]
      exact e
    · rename_i c
      rw [if_neg c]
      obtain ⟨x5, e5, e⟩ := ob e
      obtain ⟨x6, e6, e⟩ := ob e
      exact bo (hle_gR H e5) (bo (hle_aI H e6) e)
theorem hle_X6_lastAt {h h' : HP} (H : hle h h') {a : Nat} {p x : Int32} (e : f_X6_lastAt h a p = some x) : f_X6_lastAt h' a p = some x := by
  obtain ⟨u, eu, e⟩ := ob e
  refine bo (hle_kO H eu) ?_
  unfold b_X6_lastAt_0 at e ⊢
  split at e
  · rename_i c
    rw [if_pos c]
    exact e
  · rename_i c
    rw [if_neg c]
    obtain ⟨x3, e3, e⟩ := ob e
    refine bo (hle_gI H e3) ?_
    split at e
    · rename_i c
      rw [if_pos c]
      exact e
    · rename_i c
      rw [if_neg c]
      obtain ⟨x5, e5, e⟩ := ob e
      obtain ⟨x6, e6, e⟩ := ob e
      exact bo (hle_gR H e5) (bo (hle_aI H e6) e)
/-- a set of keys, in two numbers -/
def kCell (lo hi : Int64) : CE := .inr (2, [.long lo, .long hi])
def kLo (lo : Int64) (f l : Int32) : Int64 := if 64 ≤ f then lo else lo ||| ((jlshl (-1) f) &&& (jlushr (-1) (63 - (jmin l 63))))
def kHi (hi : Int64) (f l : Int32) : Int64 := if l < 64 then hi else hi ||| ((jlshl (-1) (jmax (f - 64) 0)) &&& (jlushr (-1) (127 - l)))
theorem hup_same (h : HP) (a : Nat) (e : CE) : hup h a e a = some e := by
  unfold hup
  rw [if_pos rfl]
theorem hup_ne (h : HP) {a b : Nat} (e : CE) (hb : b ≠ a) : hup h a e b = h b := by
  unfold hup
  rw [if_neg hb]
theorem hup_hup (h : HP) (a : Nat) (e e' : CE) : hup (hup h a e) a e' = hup h a e' := by
  funext b
  unfold hup
  split <;> rfl
theorem addRow_is {h : HP} {a : Nat} {lo hi : Int64} (ha : h a = some (kCell lo hi)) (f l : Int32) : f_X2_addRow h a f l = some (if (64 ≤ f ∧ l < 64) then h else hup h a (kCell (kLo lo f l) (kHi hi f l))) := by
  have hk : kO 2 h a = some () := by unfold kO; rw [ha]; rfl
  unfold f_X2_addRow
  rw [hk]
  show b_X2_addRow_0 a f l h = _
  unfold b_X2_addRow_0 b_X2_addRow_34 kLo kHi
  by_cases c1 : 64 ≤ f
  · rw [if_pos c1]
    by_cases c2 : l < 64
    · rw [if_pos c2, if_pos ⟨c1, c2⟩]
    · rw [if_neg c2, if_neg (fun z => c2 z.2)]
      simp [gL, pL, pV, ha, kCell, c1, c2]
  · rw [if_neg c1, if_neg (fun z => c1 z.1)]
    have g1 : gL 2 0 h a = some lo := by simp [gL, ha, kCell]
    rw [g1]
    simp only [Option.bind_some]
    have g2 : ∀ x, pL 2 0 h a x = some (hup h a (kCell x hi)) := fun x => by simp [pL, pV, ha, kCell]
    rw [g2]
    simp only [Option.bind_some]
    by_cases c2 : l < 64
    · rw [if_pos c2, if_neg c1, if_pos c2]
    · rw [if_neg c2, if_neg c1, if_neg c2]
      have g3 : ∀ x, gL 2 1 (hup h a (kCell x hi)) a = some hi := fun x => by simp [gL, hup_same, kCell]
      rw [g3]
      simp only [Option.bind_some]
      simp [pL, pV, hup_same, kCell, hup_hup]
def k_keysIn (h : HP) (v0 : Nat) (v1 : Int32) : Nat → Int64 → Int64 → Int32 → Option Int32
  | 0, _, _, _ => none
  | n + 1, lo, hi, j => (f_X3_endOf h v0 v1).bind fun y1 => if y1 ≤ j then f_X2_size (fun _ => some (kCell lo hi)) 0 else (gR 3 1 h v0).bind fun x4 => (f_X6_firstAt h x4 j).bind fun y5 => (f_X6_lastAt h x4 j).bind fun y7 => k_keysIn h v0 v1 n (kLo lo y5 y7) (kHi hi y5 y7) (j + 1)
def f_X3_keysIn (h : HP) (v0 : Nat) (v1 : Int32) : Option Int32 := (kO 3 h v0).bind fun _ => (f_X3_startOf h v0 v1).bind fun y3 => k_keysIn h v0 v1 FU 0 0 y3
theorem size_is {h : HP} {a : Nat} {lo hi : Int64} (ha : h a = some (kCell lo hi)) : f_X2_size h a = f_X2_size (fun _ => some (kCell lo hi)) 0 := by
  unfold f_X2_size
  have hk : kO 2 h a = some () := by unfold kO; rw [ha]; rfl
  have hk2 : kO 2 (fun _ => some (kCell lo hi)) 0 = some () := rfl
  rw [hk, hk2]
  simp only [Option.bind_some]
  unfold b_X2_size_0
  have g1 : gL 2 0 h a = some lo := by simp [gL, ha, kCell]
  have g2 : gL 2 1 h a = some hi := by simp [gL, ha, kCell]
  have g3 : gL 2 0 (fun _ => some (kCell lo hi)) 0 = some lo := rfl
  have g4 : gL 2 1 (fun _ => some (kCell lo hi)) 0 = some hi := rfl
  rw [g1, g2, g3, g4]
  rfl
theorem hle_hup {h : HP} {q : Nat} (hq : h q = none) (e : CE) : hle h (hup h q e) := by
  intro a e' ha
  rw [hup_ne]
  · exact ha
  · intro z
    rw [z, hq] at ha
    cases ha
theorem hdel_hup {h : HP} {q : Nat} (hq : h q = none) (e : CE) : hdel (hup h q e) q = h := by
  funext b
  unfold hdel hup
  by_cases hb : b = q
  · rw [if_pos hb, hb, hq]
  · rw [if_neg hb, if_neg hb]
theorem keysIn_loop {h : HP} {q v0 : Nat} {v1 : Int32} (hq : h q = none) : ∀ (n : Nat) (lo hi : Int64) (j r : Int32), k_keysIn h v0 v1 n lo hi j = some r → ∃ lo' hi', b_X3_keysIn_14 q v0 v1 n (hup h q (kCell lo hi)) q j = some (r, hup h q (kCell lo' hi')) := by
  intro n
  induction n with
  | zero => intro lo hi j r e; cases e
  | succ n ih =>
    intro lo hi j r e
    rw [k_keysIn] at e
    rw [b_X3_keysIn_14, c_X3_keysIn_14]
    obtain ⟨y1, e1, e⟩ := ob e
    rw [hle_X3_endOf (hle_hup hq _) e1]
    simp only [Option.bind_some]
    by_cases c : y1 ≤ j
    · rw [if_pos c] at e ⊢
      rw [size_is (hup_same h q (kCell lo hi)), e]
      exact ⟨lo, hi, rfl⟩
    · rw [if_neg c] at e ⊢
      obtain ⟨x4, e4, e⟩ := ob e
      obtain ⟨y5, e5, e⟩ := ob e
      obtain ⟨y7, e7, e⟩ := ob e
      rw [hle_gR (hle_hup hq _) e4]
      simp only [Option.bind_some]
      rw [hle_X6_firstAt (hle_hup hq _) e5, hle_X6_lastAt (hle_hup hq _) e7]
      simp only [Option.bind_some]
      rw [addRow_is (hup_same h q (kCell lo hi))]
      simp only [Option.bind_some, hup_hup]
      by_cases c2 : 64 ≤ y5 ∧ y7 < 64
      · rw [if_pos c2]
        have k1 : kLo lo y5 y7 = lo := by unfold kLo; rw [if_pos c2.1]
        have k2 : kHi hi y5 y7 = hi := by unfold kHi; rw [if_pos c2.2]
        rw [k1, k2] at e
        exact ih _ _ _ _ e
      · rw [if_neg c2]
        exact ih _ _ _ _ e
theorem o_X3_keysIn {h : HP} {v0 : Nat} {v1 : Int32} {res : Int32} (hf : f_X3_keysIn h v0 v1 = some res) : ∃ fs, h v0 = some (.inr (3, fs)) := by
  obtain ⟨u, eu, -⟩ := ob hf
  exact kO_spec eu
theorem m_X3_keysIn {l : Launch} {Q : PST} {h : HP} {v0 : Nat} {v1 : Int32} {sz : Nat} {res : Int32} (hQ : ∀ sz', Q (.inl (some (.int res))) h sz') (hf : f_X3_keysIn h v0 v1 = some res) : MM l M_X3_keysIn [.ref v0, .int v1] h sz Q := by
  refine mq_X3_keysIn (fun hfr => ?_)
  have hq : h sz = none := by
    cases hx : h sz with
    | none => rfl
    | some e => exact absurd (hfr _ _ hx) (Nat.lt_irrefl _)
  obtain ⟨u, eu, hf⟩ := ob hf
  obtain ⟨y3, e3, hf⟩ := ob hf
  obtain ⟨lo', hi', hb⟩ := keysIn_loop hq _ _ _ _ _ hf
  refine ⟨(res, hup h sz (kCell lo' hi')), ?_, fun sz' => ?_⟩
  · unfold fq_X3_keysIn b_X3_keysIn_0
    show (nwO h sz 2 [.long 0, .long 0]).bind _ = _
    unfold nwO
    simp only [Option.bind_some]
    unfold f_X2_init b_X2_init_0
    simp only [Option.bind_some]
    rw [show (Sum.inr (2, [Value.long 0, Value.long 0]) : CE) = kCell 0 0 from rfl, hle_X3_startOf (hle_hup hq _) e3]
    simp only [Option.bind_some]
    exact hb
  · show Q _ (hdel (hup h sz _) sz) sz'
    rw [hdel_hup hq]
    exact hQ sz'
