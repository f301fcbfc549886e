/-! the class's calls where nothing is thrown -/
theorem wrt {β : Type} {f : Option ((Int32 ⊕ String) × HP)} {G : (Int32 ⊕ String) × HP → Int32 → Option β} {v : Int32} {x : Nat} {A : AB} {P : β → Prop} (hf : WP f (fun r => r.1 = .inl v ∧ CLS r.2 x A)) (k : ∀ h', CLS h' x A → WP (G (.inl v, h') v) P) : WP (f.bind fun y => (rt y.1).bind fun r => G y r) P := by
  obtain ⟨⟨y, h'⟩, e, h1, h2⟩ := hf
  cases h1
  rw [e]
  exact k h' h2
theorem wrr {β : Type} {f : Option (Int32 ⊕ String)} {G : Int32 ⊕ String → Int32 → Option β} {v : Int32} {P : β → Prop} (hf : f = some (.inl v)) (k : WP (G (.inl v) v) P) : WP (f.bind fun y => (rt y).bind fun r => G y r) P := by
  rw [hf]
  exact k
theorem N_of {f : Option ((Int32 ⊕ String) × HP)} {x : Nat} {A : AB} {ns : List String} {c v : Int} {h : HP} (hf : WP f (CLR7 x A ns c v h)) (hc : c = 0) : WP f (fun r => r.1 = .inl (zI v) ∧ CLS r.2 x A) := by
  obtain ⟨r, e, h1, h2, -⟩ := hf
  exact ⟨r, e, h1.trans (EXC_0 ns hc), h2⟩
theorem N_about {h : HP} {x : Nat} {A : AB} (e : CLS h x A) {M : Int} (H : GOK A.1 M) {w : Int} (hw : 0 ≤ w ∧ w ≤ 8) {y : Int32} (hy : y = zI w) : WP (f_X7_about h x y) (fun r => r.1 = .inl (zI (tld A.1 w)) ∧ CLS r.2 x A) := by
  have := C_about e H (w := w) (by omega)
  have hx : xAbout A w = (0, tld A.1 w, A) := if_neg (fun d => d hw)
  rw [hx] at this
  rw [hy]
  exact N_of this rfl
def gvV (S : SG) (k i : Int) : Int := if vw S k i = 0 then -1 else vw S k i
theorem N_get {h : HP} {x : Nat} {A : AB} (e : CLS h x A) {M : Int} (H : GOK A.1 M) {k i : Int} (hk : 0 ≤ k ∧ k ≤ 99) (hi : -1 ≤ i ∧ i < A.1.2.2.1.length) {y z : Int32} (hy : y = zI k) (hz : z = zI i) : f_X7_get h x y z = some (.inl (zI (gvV A.1 k i))) := by
  have hY := H.2.2.2
  have := C_get e H (k := k) (i := i) (by omega) (by omega)
  have hx : xGet A k i = (0, gvV A.1 k i, A) := if_neg (fun d => d ⟨hk, hi⟩)
  rw [hx] at this
  rw [hy, hz, this]
  exact congrArg some (EXC_0 _ rfl)
theorem N_run {h : HP} {x : Nat} {A : AB} (e : CLS h x A) {M : Int} (H : GOK A.1 M) {i w : Int} (hi : -1 ≤ i ∧ i < A.1.2.1.length) (hw : 0 ≤ w ∧ w ≤ 3) {y z : Int32} (hy : y = zI i) (hz : z = zI w) : f_X7_run h x y z = some (.inl (zI (rnV A.1 i w))) := by
  have g := CLS_g e
  have s := CLS_S e
  have hS := H.2
  unfold SML at hS
  have hE := H.1.2.2.2.2.2.2
  have hp := plc hE (i := i) hi
  have h1 := X3_startOf_is s (i := i) (by omega)
  have h2 := X3_endOf_is s (i := i) (by omega)
  have h3 := X3_sizeOf_is s (i := i) (by omega)
  have h4 := X3_entriesIn_is s H.1.1 (p := (sOf A.1 i).toNat) (m := (eOf A.1 i - sOf A.1 i).toNat) (by omega)
  rw [show (((sOf A.1 i).toNat : Nat) : Int) = sOf A.1 i by omega, show (((sOf A.1 i).toNat + (eOf A.1 i - sOf A.1 i).toNat : Nat) : Int) = eOf A.1 i by omega] at h4
  rw [hy, hz]
  unfold f_X7_run b_X7_run_0
  rw [g.1, Option.bind_some, g.2.2.1, Option.bind_some, X3_isPlace_is s (by omega), Option.bind_some, tB_1 hi, if_neg (by decide)]
  simp only [show (2 : Int32) = zI 2 by decide, show (3 : Int32) = zI 3 by decide, show (4 : Int32) = zI 4 by decide, zl0, zl1, zI_neg]
  unfold rnV
  by_cases w0 : w = 0
  · rw [if_pos ((zI_inj (by omega)).mpr w0), if_pos w0, Option.bind_some, Option.bind_some, h1, Option.bind_some, Option.bind_some, h2, Option.bind_some, h4]
    rfl
  · rw [if_neg (fun d => w0 ((zI_inj (by omega)).mp d)), if_neg w0]
    by_cases w1 : w = 1
    · rw [if_pos ((zI_inj (by omega)).mpr w1), if_pos w1, Option.bind_some, h3, Option.bind_some, Option.bind_some, Option.bind_some, h1, Option.bind_some, Option.bind_some, h2, Option.bind_some, h4, Option.bind_some, zI_sub]
    · rw [if_neg (fun d => w1 ((zI_inj (by omega)).mp d)), if_neg w1]
      by_cases w2 : w = 2
      · rw [if_pos ((zI_inj (by omega)).mpr w2), if_pos w2, Option.bind_some, h3, Option.bind_some]
        by_cases c2 : eOf A.1 i - sOf A.1 i = 0
        · rw [if_pos ((zI_inj (by omega)).mpr c2), if_pos c2]
        · rw [if_neg (fun d => c2 ((zI_inj (by omega)).mp d)), if_neg c2, Option.bind_some, (STO_w s).1, Option.bind_some, Option.bind_some, h1, Option.bind_some, X6_numberAt_is (STO_w s).2.1 (by omega)]
          rfl
      · rw [if_neg (fun d => w2 ((zI_inj (by omega)).mp d)), if_neg w2]
        have w3 : w = 3 := by omega
        rw [if_pos ((zI_inj (by omega)).mpr w3), if_pos w3, Option.bind_some, h3, Option.bind_some]
        by_cases c2 : eOf A.1 i - sOf A.1 i = 0
        · rw [if_pos ((zI_inj (by omega)).mpr c2), if_pos c2]
        · rw [if_neg (fun d => c2 ((zI_inj (by omega)).mp d)), if_neg c2, Option.bind_some, (STO_w s).1, Option.bind_some, Option.bind_some, h2, Option.bind_some, zI_sub, X6_numberAt_is (STO_w s).2.1 (by omega)]
          rfl
theorem N_write {h : HP} {x : Nat} {A : AB} (e : CLS h x A) {M : Int} (H : GOK A.1 M) {i j w : Int} (hi : -1 ≤ i ∧ i < A.1.2.1.length) (hj : 0 ≤ j ∧ j < 1000) (hw : 0 ≤ w ∧ w ≤ 3) {y z u : Int32} (hy : y = zI i) (hz : z = zI j) (hu : u = zI w) : f_X7_write h x y z u = some (.inl (zI (if j < eOf A.1 i - sOf A.1 i then fld (wat A.1.1 (sOf A.1 i + j)) w else -1))) := by
  have hS := H.2
  unfold SML at hS
  have := C_write e H (i := i) (j := j) (w := w) (by omega) (by omega) (by omega)
  have hx : xWrite A i j w = (0, (if j < eOf A.1 i - sOf A.1 i then fld (wat A.1.1 (sOf A.1 i + j)) w else -1), A) := by
    unfold xWrite
    rw [if_neg (fun d => d hi), if_neg (fun d => by omega)]
  rw [hx] at this
  rw [hy, hz, hu, this]
  exact congrArg some (EXC_0 _ rfl)
theorem N_put {h : HP} {x : Nat} {A : AB} (e : CLS h x A) {M : Int} (H : GOK A.1 M) {k v : Int} (hk : 0 ≤ k ∧ k ≤ 99) (hv : 1 ≤ v ∧ v ≤ 999) (hl : A.1.1.length < 48) {y z : Int32} (hy : y = zI k) (hz : z = zI v) : WP (f_X7_put h x y z) (fun r => r.1 = .inl (zI (A.1.2.2.2.1 + 1)) ∧ CLS r.2 x (wadd A.1 k k v, push A.2.1 A.1, A.2.2)) := by
  have := C_put e H (k := k) (v := v) (by omega) (by omega)
  have hF : putF A.1 k v = 0 := by
    unfold putF
    rw [if_neg (fun d => d hk), if_neg (fun d => d hv), if_neg (by omega)]
  have hx : xPut A k v = (0, A.1.2.2.2.1 + 1, wadd A.1 k k v, push A.2.1 A.1, A.2.2) := if_neg (fun d => d hF)
  rw [hx] at this
  rw [hy, hz]
  exact N_of this rfl
theorem N_bury {h : HP} {x : Nat} {A : AB} (e : CLS h x A) {M : Int} (H : GOK A.1 M) {p q : Int} (hp : 0 ≤ p ∧ p ≤ q ∧ q ≤ 99) (hl : A.1.1.length < 48) {y z : Int32} (hy : y = zI p) (hz : z = zI q) : WP (f_X7_bury h x y z) (fun r => r.1 = .inl (zI (cnt (fun k => vw A.1 k (-1) ≠ 0) p.toNat (q + 1 - p).toNat)) ∧ CLS r.2 x (wadd A.1 p q 0, push A.2.1 A.1, A.2.2)) := by
  have := C_bury e H (p := p) (q := q) (by omega) (by omega)
  have hF : buryF A.1 p q = 0 := by
    unfold buryF
    rw [if_neg (by omega), if_neg (by omega), if_neg (by omega)]
  have hx : xBury A p q = (0, cnt (fun k => vw A.1 k (-1) ≠ 0) p.toNat (q + 1 - p).toNat, wadd A.1 p q 0, push A.2.1 A.1, A.2.2) := if_neg (fun d => d hF)
  rw [hx] at this
  rw [hy, hz]
  exact N_of this rfl
theorem N_open {h : HP} {x : Nat} {A : AB} (e : CLS h x A) {M : Int} (H : GOK A.1 M) (hl : A.1.2.2.1.length < 2) : WP (f_X7_open h x) (fun r => r.1 = .inl (zI A.1.2.2.1.length) ∧ CLS r.2 x ((A.1.1, A.1.2.1, A.1.2.2.1 ++ [A.1.2.2.2.1], A.1.2.2.2.1, A.1.2.2.2.2), push A.2.1 A.1, A.2.2)) := by
  have := C_open e H
  have hx : xOpen A = (0, (A.1.2.2.1.length : Int), (A.1.1, A.1.2.1, A.1.2.2.1 ++ [A.1.2.2.2.1], A.1.2.2.2.1, A.1.2.2.2.2), push A.2.1 A.1, A.2.2) := if_neg (fun d => d hl)
  rw [hx] at this
  exact N_of this rfl
theorem N_close {h : HP} {x : Nat} {A : AB} (e : CLS h x A) {M : Int} (H : GOK A.1 M) {i : Int} (hi : 0 ≤ i ∧ i < A.1.2.2.1.length) {y : Int32} (hy : y = zI i) : WP (f_X7_close h x y) (fun r => r.1 = .inl (zI (A.1.2.2.1.length - 1)) ∧ CLS r.2 x ((A.1.1, A.1.2.1, A.1.2.2.1.eraseIdx i.toNat, A.1.2.2.2.1, A.1.2.2.2.2), push A.2.1 A.1, A.2.2)) := by
  have hY := H.2.2.2
  have := C_close e H (i := i) (by omega)
  have hx : xClose A i = (0, (A.1.2.2.1.length : Int) - 1, (A.1.1, A.1.2.1, A.1.2.2.1.eraseIdx i.toNat, A.1.2.2.2.1, A.1.2.2.2.2), push A.2.1 A.1, A.2.2) := if_neg (fun d => d hi)
  rw [hx] at this
  rw [hy]
  exact N_of this rfl
theorem N_flush {h : HP} {x : Nat} {A : AB} (e : CLS h x A) {M : Int} (H : GOK A.1 M) (hF : flF A.1 = 0) : WP (f_X7_flush h x) (fun r => r.1 = .inl (zI (flK A.1).length) ∧ CLS r.2 x (flS A.1, push A.2.1 A.1, A.2.2)) := by
  have := C_flush e H
  have hx : xFlush A = (0, ((flK A.1).length : Int), flS A.1, push A.2.1 A.1, A.2.2) := if_neg (fun d => d hF)
  rw [hx] at this
  exact N_of this rfl
theorem N_merge {h : HP} {x : Nat} {A : AB} (e : CLS h x A) {M : Int} (H : GOK A.1 M) {i : Int} (hF : mgF A.1 i = 0) {y : Int32} (hy : y = zI i) : WP (f_X7_merge h x y) (fun r => r.1 = .inl (zI (mgK A.1 i).length) ∧ CLS r.2 x (mgS A.1 i, push A.2.1 A.1, A.2.2)) := by
  have hi := (mgF_0 hF).1
  have hS := H.2.2.1
  have := C_merge e H (i := i) (by omega)
  have hx : xMerge A i = (0, ((mgK A.1 i).length : Int), mgS A.1 i, push A.2.1 A.1, A.2.2) := if_neg (fun d => d hF)
  rw [hx] at this
  rw [hy]
  exact N_of this rfl
theorem N_saves {h : HP} {x : Nat} {A : AB} (e : CLS h x A) {M : Int} (H : GOK A.1 M) {i : Int} (hF : mgF A.1 i = 0) {y : Int32} (hy : y = zI i) : WP (f_X7_saves h x y) (fun r => r.1 = .inl (zI (mgV A.1 i)) ∧ CLS r.2 x A) := by
  have hi := (mgF_0 hF).1
  have hS := H.2.2.1
  have := C_saves e H (i := i) (by omega)
  have hx : xSaves A i = (0, mgV A.1 i, A) := if_neg (fun d => d hF)
  rw [hx] at this
  rw [hy]
  exact N_of this rfl
theorem N_undo {h : HP} {x : Nat} {A : AB} (e : CLS h x A) {M : Int} (H : AOK A M) (hl : 0 < A.2.1.length) : WP (f_X7_undo h x) (fun r => r.1 = .inl (zI ((A.2.1.length : Int) - 1)) ∧ CLS r.2 x (A.2.1[A.2.1.length - 1], A.2.1.dropLast, A.2.2)) := by
  have := C_undo e H
  rw [xUndo_1 hl] at this
  exact N_of this rfl
theorem N_looks {h : HP} {x : Nat} {A : AB} (e : CLS h x A) {M : Int} (H : GOK A.1 M) {k : Int} (hk : 0 ≤ k ∧ k ≤ 99) {y : Int32} (hy : y = zI k) : f_X7_looks h x y = some (.inl (zI (lk A.1 k (-1) 0 (A.1.2.1.length + 1)))) := by
  have := C_looks e H (k := k) (by omega)
  have hx : xLooks A k = (0, lk A.1 k (-1) 0 (A.1.2.1.length + 1), A) := if_neg (fun d => d hk)
  rw [hx] at this
  rw [hy, this]
  exact congrArg some (EXC_0 _ rfl)
theorem N_next {h : HP} {x : Nat} {A : AB} (e : CLS h x A) {M : Int} (H : GOK A.1 M) {k : Int} (hk : 0 ≤ k ∧ k ≤ 99) {y z : Int32} (hy : y = zI k) (hz : z = zI (-1)) : WP (f_X7_next h x y z) (fun r => r.1 = .inl (zI (fst1 (fun q => vw A.1 q (-1) ≠ 0) k.toNat (100 - k.toNat))) ∧ CLS r.2 x A) := by
  have := C_next e H (k := k) (i := -1) (by omega) (by omega)
  have hx : xNext A k (-1) = (0, fst1 (fun q => vw A.1 q (-1) ≠ 0) k.toNat (100 - k.toNat), A) := if_neg (fun d => d ⟨hk, by omega⟩)
  rw [hx] at this
  rw [hy, hz]
  exact N_of this rfl
theorem N_count {h : HP} {x : Nat} {A : AB} (e : CLS h x A) {M : Int} (H : GOK A.1 M) {p q : Int} (hp : 0 ≤ p ∧ p ≤ q ∧ q ≤ 99) {y z u : Int32} (hy : y = zI p) (hz : z = zI q) (hu : u = zI (-1)) : WP (f_X7_count h x y z u) (fun r => r.1 = .inl (zI (cnt (fun k => vw A.1 k (-1) ≠ 0) p.toNat (q + 1 - p).toNat)) ∧ CLS r.2 x A) := by
  have := C_count e H (p := p) (q := q) (i := -1) (by omega) (by omega) (by omega)
  have hx : xCount A p q (-1) = (0, cnt (fun k => vw A.1 k (-1) ≠ 0) p.toNat (q + 1 - p).toNat, A) := by
    unfold xCount
    rw [if_neg (by omega), if_neg (by omega)]
  rw [hx] at this
  rw [hy, hz, hu]
  exact N_of this rfl
