/-! whole numbers in the mirrors: zI z is the int of a whole number z -/
def zI (z : Int) : Int32 := Int32.ofInt z
theorem zI_add (a b : Int) : zI a + zI b = zI (a + b) := (Int32.ofInt_add a b).symm
theorem zI_sub (a b : Int) : zI a - zI b = zI (a - b) := (Int32.ofInt_sub a b).symm
theorem zI_mul (a b : Int) : zI a * zI b = zI (a * b) := (Int32.ofInt_mul a b).symm
theorem zI_neg (a : Int) : - zI a = zI (- a) := (Int32.ofInt_neg a).symm
theorem zI_toInt {a : Int} (h : -2147483648 ≤ a ∧ a < 2147483648) : (zI a).toInt = a := Int32.toInt_ofInt_of_le (by omega) (by omega)
theorem zI_lt {a b : Int} (h : (-2147483648 ≤ a ∧ a < 2147483648) ∧ -2147483648 ≤ b ∧ b < 2147483648) : zI a < zI b ↔ a < b := by
  rw [Int32.lt_iff_toInt_lt, zI_toInt h.1, zI_toInt h.2]
theorem zI_le {a b : Int} (h : (-2147483648 ≤ a ∧ a < 2147483648) ∧ -2147483648 ≤ b ∧ b < 2147483648) : zI a ≤ zI b ↔ a ≤ b := by
  rw [Int32.le_iff_toInt_le, zI_toInt h.1, zI_toInt h.2]
theorem zI_inj {a b : Int} (h : (-2147483648 ≤ a ∧ a < 2147483648) ∧ -2147483648 ≤ b ∧ b < 2147483648) : zI a = zI b ↔ a = b := by
  rw [← Int32.toInt_inj, zI_toInt h.1, zI_toInt h.2]
theorem zI_clamp {a : Int} (h : 0 ≤ a ∧ a < 2147483648) : (zI a).toNatClampNeg = a.toNat := Int32.toNatClampNeg_ofInt_of_le (by omega) (by omega)
theorem zI_of (x : Int32) : x = zI x.toInt := (Int32.ofInt_toInt x).symm
theorem zI_rng (x : Int32) : -2147483648 ≤ x.toInt ∧ x.toInt < 2147483648 := ⟨Int32.le_toInt x, Int32.toInt_lt x⟩
theorem zl0 : (0 : Int32) = zI 0 := by decide
theorem zl1 : (1 : Int32) = zI 1 := by decide
theorem zln (n : Nat) : Int32.ofNat n = zI n := Int32.ofInt_eq_ofNat.symm
theorem zI_nat (n : Nat) : nI n = zI n := Int32.ofInt_eq_ofNat.symm
theorem zI_in {a : Int} {n : Nat} (h : 0 ≤ a ∧ a < n ∧ (n : Int) < 2147483648) : vp_in (zI a) n := vp_in_iff.mpr (by rw [zI_toInt (by omega)]; omega)
theorem zI_jmax {a b : Int} (h : (-2147483648 ≤ a ∧ a < 2147483648) ∧ -2147483648 ≤ b ∧ b < 2147483648) : jmax (zI a) (zI b) = zI (max a b) := by
  unfold jmax
  by_cases c : a < b
  · rw [if_pos ((zI_lt h).mpr c)]
    exact congrArg zI (by omega)
  · rw [if_neg (fun d => c ((zI_lt h).mp d))]
    exact congrArg zI (by omega)
theorem zI_jmin {a b : Int} (h : (-2147483648 ≤ a ∧ a < 2147483648) ∧ -2147483648 ≤ b ∧ b < 2147483648) : jmin (zI a) (zI b) = zI (min a b) := by
  unfold jmin
  by_cases c : b < a
  · rw [if_pos ((zI_lt (by omega)).mpr c)]
    exact congrArg zI (by omega)
  · rw [if_neg (fun d => c ((zI_lt (by omega)).mp d))]
    exact congrArg zI (by omega)
/-! what a reading gives -/
theorem kO_e {ci : Nat} {h : HP} {a : Nat} {fs : List Value} (e : h a = some (.inr (ci, fs))) : kO ci h a = some () := by
  unfold kO
  rw [e]
  simp
theorem gI_e {ci k : Nat} {h : HP} {a : Nat} {fs : List Value} {x : Int32} (e : h a = some (.inr (ci, fs))) (ek : fs[k]? = some (.int x)) : gI ci k h a = some x := by
  unfold gI
  rw [e]
  simp [ek]
theorem gL_e {ci k : Nat} {h : HP} {a : Nat} {fs : List Value} {x : Int64} (e : h a = some (.inr (ci, fs))) (ek : fs[k]? = some (.long x)) : gL ci k h a = some x := by
  unfold gL
  rw [e]
  simp [ek]
theorem gR_e {ci k : Nat} {h : HP} {a : Nat} {fs : List Value} {x : Nat} (e : h a = some (.inr (ci, fs))) (ek : fs[k]? = some (.ref x)) : gR ci k h a = some x := by
  unfold gR
  rw [e]
  simp [ek]
theorem aI_e {h : HP} {a n : Nat} {f : Nat → Int32} {z : Int} (e : h a = some (.inl (0, n, .inl f))) (hz : 0 ≤ z ∧ z < n ∧ (n : Int) < 2147483648) : aI h a (zI z) = some (f z.toNat) := by
  have h1 := zI_in hz
  unfold aI
  rw [e]
  simp only [if_true]
  rw [if_neg h1, zI_clamp (by omega)]
theorem aN_e {h : HP} {a n : Nat} {f : Nat → Int32} (e : h a = some (.inl (0, n, .inl f))) : aN h a = some (zI n) := by
  unfold aN
  rw [e]
  simp [zln]
theorem pI_e {ci k : Nat} {h : HP} {a : Nat} {fs : List Value} {x : Int32} (e : h a = some (.inr (ci, fs))) (ek : k < fs.length) : pI ci k h a x = some (hup h a (.inr (ci, fs.set k (.int x)))) := by
  unfold pI pV
  rw [e]
  simp [ek]
theorem pI_e2 {ci k : Nat} {h : HP} {a : Nat} {fs fs2 : List Value} {x : Int32} (e : h a = some (.inr (ci, fs))) (ek : k < fs.length) (es : fs.set k (.int x) = fs2) : pI ci k h a x = some (hup h a (.inr (ci, fs2))) := by
  rw [← es]
  exact pI_e e ek
theorem wI_e {h : HP} {a n : Nat} {f : Nat → Int32} {z : Int} {x : Int32} (e : h a = some (.inl (0, n, .inl f))) (hz : 0 ≤ z ∧ z < n ∧ (n : Int) < 2147483648) : wI h a (zI z) x = some (hup h a (.inl (0, n, .inl (upd f z.toNat x)))) := by
  have h1 := zI_in hz
  unfold wI
  rw [e]
  simp only [if_true]
  rw [if_neg h1, zI_clamp (by omega)]
/-! a program that ends, and what then holds -/
def WP {α : Type} (o : Option α) (P : α → Prop) : Prop := ∃ r, o = some r ∧ P r
theorem wb {α β : Type} {o : Option α} {f : α → Option β} {x : α} {P : β → Prop} (e : o = some x) (k : WP (f x) P) : WP (o.bind f) P := by
  rw [e]
  exact k
theorem wpb {α β : Type} {o : Option α} {f : α → Option β} {R : α → Prop} {P : β → Prop} (e : WP o R) (k : ∀ x, R x → WP (f x) P) : WP (o.bind f) P := by
  obtain ⟨x, e, hx⟩ := e
  rw [e]
  exact k x hx
theorem wr {α : Type} {r : α} {P : α → Prop} (h : P r) : WP (some r) P := ⟨r, rfl, h⟩
theorem wt {α : Type} {c : Prop} [Decidable c] {A B : Option α} {P : α → Prop} (hc : c) (h : WP A P) : WP (if c then A else B) P := by rw [if_pos hc]; exact h
theorem wf {α : Type} {c : Prop} [Decidable c] {A B : Option α} {P : α → Prop} (hc : ¬ c) (h : WP B P) : WP (if c then A else B) P := by rw [if_neg hc]; exact h
theorem wm {α : Type} {o : Option α} {P R : α → Prop} (e : WP o P) (k : ∀ x, P x → R x) : WP o R := by
  obtain ⟨x, e, hx⟩ := e
  exact ⟨x, e, k x hx⟩
theorem weq {α : Type} {o : Option α} {x : α} {P : α → Prop} (e : o = some x) (h : P x) : WP o P := ⟨x, e, h⟩
/-- the same world but in n cells from a on -/
def OFF (a n : Nat) (h h' : HP) : Prop := ∀ b, b < a ∨ a + n ≤ b → h' b = h b
theorem OFF_refl (a n : Nat) (h : HP) : OFF a n h h := fun _ _ => rfl
theorem OFF_trans {a n : Nat} {h h' h'' : HP} (e : OFF a n h h') (e' : OFF a n h' h'') : OFF a n h h'' := fun b hb => (e' b hb).trans (e b hb)
theorem OFF_up {a n : Nat} {h h' : HP} {c : Nat} {e : CE} (g : OFF a n h h') (hc : a ≤ c ∧ c < a + n) : OFF a n h (hup h' c e) := fun b hb => (hup_ne _ _ (by omega)).trans (g b hb)
theorem OFF_wide {a n a' n' : Nat} {h h' : HP} (g : OFF a n h h') (hc : a' ≤ a ∧ a + n ≤ a' + n') : OFF a' n' h h' := fun b hb => g b (by omega)
