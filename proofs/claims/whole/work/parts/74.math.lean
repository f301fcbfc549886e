/-! answers: a code (0, or which exception) and a value -/
def EXC (ns : List String) (c v : Int) : Int32 ⊕ String := if c = 0 then .inl (zI v) else .inr (ns.getD (c - 1).toNat "")
def OUTA (h : HP) (o : Nat) : Prop := ∃ f, h o = some (.inl (2, 1, .inr (.inl f)))
theorem wL_e {h : HP} {o : Nat} (e : OUTA h o) (x : Int64) : WP (wL h o 0 x) (fun h' => OUTA h' o ∧ aL h' o 0 = some x ∧ OFF o 1 h h') := by
  obtain ⟨f, e⟩ := e
  have h1 : ¬ ((0 : Int32) < 0 ∨ 1 ≤ (0 : Int32).toNatClampNeg) := by decide
  have h2 : wL h o 0 x = some (hup h o (.inl (2, 1, .inr (.inl (vp_updL f (0 : Int32).toNatClampNeg x))))) := by
    unfold wL
    rw [e]
    simp only []
    rw [if_neg h1]
  refine weq h2 ⟨⟨_, hup_same _ _ _⟩, ?_, OFF_up (OFF_refl _ _ _) (by omega)⟩
  unfold aL
  rw [hup_same]
  simp only []
  rw [if_neg h1]
  unfold vp_updL
  rw [if_pos rfl]
theorem aL_off {h h' : HP} {o a n : Nat} {x : Int64} (e : aL h o 0 = some x) (k : OFF a n h h') (d : o < a ∨ a + n ≤ o) : aL h' o 0 = some x := by
  unfold aL at e ⊢
  rw [k _ d]
  exact e
/-- what the law's try of a call gives -/
def WRP (x o : Nat) (A : AB) (c v : Int) (h : HP) (r : Int32 × HP) : Prop := r.1 = zI c ∧ CLS r.2 x A ∧ OUTA r.2 o ∧ (c = 0 → aL r.2 o 0 = some (Int32.toInt64 (zI v))) ∧ ∀ b, (b < x ∨ x + 311 ≤ b) → b ≠ o → r.2 b = h b
theorem wrap_0 {x o : Nat} {A : AB} {c v : Int} {h h1 : HP} (e : CLS h1 x A) (of : OFF x 311 h h1) (out : OUTA h o) (ho : x + 311 ≤ o) (hc : c = 0) : WP ((wL h1 o 0 (Int32.toInt64 (zI v))).bind fun h2 => some ((0 : Int32), h2)) (WRP x o A c v h) := by
  have out1 : OUTA h1 o := by
    obtain ⟨f, hf⟩ := out
    exact ⟨f, (of _ (by omega)).trans hf⟩
  refine wpb (wL_e out1 _) ?_
  rintro h2 ⟨q1, q2, q3⟩
  refine wr ⟨by rw [hc]; rfl, CLS_off e q3 (by omega), q1, fun _ => q2, fun b h1 h2 => (q3 b (by omega)).trans (of b (by omega))⟩
theorem wrap_n {x o : Nat} {A : AB} {c v : Int} {h h1 : HP} (e : CLS h1 x A) (of : OFF x 311 h h1) (out : OUTA h o) (ho : x + 311 ≤ o) (hc : c ≠ 0) {y : Int32} (hy : y = zI c) : WP (some (y, h1)) (WRP x o A c v h) := by
  have out1 : OUTA h1 o := by
    obtain ⟨f, hf⟩ := out
    exact ⟨f, (of _ (by omega)).trans hf⟩
  exact wr ⟨hy, e, out1, fun d => absurd d hc, fun b h1 h2 => of b (by omega)⟩
/-- a call of the class: it may change its own cells -/
def CLR7 (x : Nat) (A : AB) (ns : List String) (c v : Int) (h : HP) (r : (Int32 ⊕ String) × HP) : Prop := r.1 = EXC ns c v ∧ CLS r.2 x A ∧ OFF x 311 h r.2
theorem wrap1 {f : Option ((Int32 ⊕ String) × HP)} {x o : Nat} {A : AB} {c v : Int} {h : HP} {n1 : String} (hf : WP f (CLR7 x A [n1] c v h)) (hc : 0 ≤ c ∧ c ≤ 1) (out : OUTA h o) (ho : x + 311 ≤ o) : WP (f.bind fun y1 => sw y1.1 (fun r => (wL y1.2 o 0 (Int32.toInt64 r)).bind fun h2 => some ((0 : Int32), h2)) (fun E => if E = n1 then some ((1 : Int32), y1.2) else none)) (WRP x o A c v h) := by
  refine wpb hf ?_
  rintro ⟨y, h1⟩ ⟨q1, q2, q3⟩
  dsimp only at q1 q2 q3 ⊢
  subst q1
  unfold EXC
  by_cases c0 : c = 0
  · rw [if_pos c0]
    exact wrap_0 q2 q3 out ho c0
  · rw [if_neg c0]
    have : c = 1 := by omega
    subst this
    show WP (if n1 = n1 then some ((1 : Int32), h1) else none) _
    rw [if_pos rfl]
    exact wrap_n q2 q3 out ho c0 rfl
theorem wrap2 {f : Option ((Int32 ⊕ String) × HP)} {x o : Nat} {A : AB} {c v : Int} {h : HP} {n1 n2 : String} (hf : WP f (CLR7 x A [n1, n2] c v h)) (hn : n2 ≠ n1) (hc : 0 ≤ c ∧ c ≤ 2) (out : OUTA h o) (ho : x + 311 ≤ o) : WP (f.bind fun y1 => sw y1.1 (fun r => (wL y1.2 o 0 (Int32.toInt64 r)).bind fun h2 => some ((0 : Int32), h2)) (fun E => if E = n1 then some ((1 : Int32), y1.2) else if E = n2 then some ((2 : Int32), y1.2) else none)) (WRP x o A c v h) := by
  refine wpb hf ?_
  rintro ⟨y, h1⟩ ⟨q1, q2, q3⟩
  dsimp only at q1 q2 q3 ⊢
  subst q1
  unfold EXC
  by_cases c0 : c = 0
  · rw [if_pos c0]
    exact wrap_0 q2 q3 out ho c0
  · rw [if_neg c0]
    by_cases c1 : c = 1
    · subst c1
      show WP (if n1 = n1 then some ((1 : Int32), h1) else if n1 = n2 then some ((2 : Int32), h1) else none) _
      rw [if_pos rfl]
      exact wrap_n q2 q3 out ho c0 rfl
    · have : c = 2 := by omega
      subst this
      show WP (if n2 = n1 then some ((1 : Int32), h1) else if n2 = n2 then some ((2 : Int32), h1) else none) _
      rw [if_neg hn, if_pos rfl]
      exact wrap_n q2 q3 out ho c0 rfl
theorem wrap3 {f : Option ((Int32 ⊕ String) × HP)} {x o : Nat} {A : AB} {c v : Int} {h : HP} {n1 n2 n3 : String} (hf : WP f (CLR7 x A [n1, n2, n3] c v h)) (hn : n2 ≠ n1 ∧ n3 ≠ n1 ∧ n3 ≠ n2) (hc : 0 ≤ c ∧ c ≤ 3) (out : OUTA h o) (ho : x + 311 ≤ o) : WP (f.bind fun y1 => sw y1.1 (fun r => (wL y1.2 o 0 (Int32.toInt64 r)).bind fun h2 => some ((0 : Int32), h2)) (fun E => if E = n1 then some ((1 : Int32), y1.2) else if E = n2 then some ((2 : Int32), y1.2) else if E = n3 then some ((3 : Int32), y1.2) else none)) (WRP x o A c v h) := by
  refine wpb hf ?_
  rintro ⟨y, h1⟩ ⟨q1, q2, q3⟩
  dsimp only at q1 q2 q3 ⊢
  subst q1
  unfold EXC
  by_cases c0 : c = 0
  · rw [if_pos c0]
    exact wrap_0 q2 q3 out ho c0
  · rw [if_neg c0]
    by_cases c1 : c = 1
    · subst c1
      show WP (if n1 = n1 then some ((1 : Int32), h1) else if n1 = n2 then some ((2 : Int32), h1) else if n1 = n3 then some ((3 : Int32), h1) else none) _
      rw [if_pos rfl]
      exact wrap_n q2 q3 out ho c0 rfl
    · by_cases c2 : c = 2
      · subst c2
        show WP (if n2 = n1 then some ((1 : Int32), h1) else if n2 = n2 then some ((2 : Int32), h1) else if n2 = n3 then some ((3 : Int32), h1) else none) _
        rw [if_neg hn.1, if_pos rfl]
        exact wrap_n q2 q3 out ho c0 rfl
      · have : c = 3 := by omega
        subst this
        show WP (if n3 = n1 then some ((1 : Int32), h1) else if n3 = n2 then some ((2 : Int32), h1) else if n3 = n3 then some ((3 : Int32), h1) else none) _
        rw [if_neg hn.2.1, if_neg hn.2.2, if_pos rfl]
        exact wrap_n q2 q3 out ho c0 rfl
/-- calls that change nothing -/
theorem wrapP1 {f : Option (Int32 ⊕ String)} {x o : Nat} {A : AB} {c v : Int} {h : HP} {n1 : String} (e : CLS h x A) (hf : f = some (EXC [n1] c v)) (hc : 0 ≤ c ∧ c ≤ 1) (out : OUTA h o) (ho : x + 311 ≤ o) : WP (f.bind fun y1 => sw y1 (fun r => (wL h o 0 (Int32.toInt64 r)).bind fun h2 => some ((0 : Int32), h2)) (fun E => if E = n1 then some ((1 : Int32), h) else none)) (WRP x o A c v h) := by
  subst hf
  exact wrap1 (f := some (EXC [n1] c v, h)) (wr ⟨rfl, e, OFF_refl _ _ _⟩) hc out ho
theorem wrapP2 {f : Option (Int32 ⊕ String)} {x o : Nat} {A : AB} {c v : Int} {h : HP} {n1 n2 : String} (e : CLS h x A) (hf : f = some (EXC [n1, n2] c v)) (hn : n2 ≠ n1) (hc : 0 ≤ c ∧ c ≤ 2) (out : OUTA h o) (ho : x + 311 ≤ o) : WP (f.bind fun y1 => sw y1 (fun r => (wL h o 0 (Int32.toInt64 r)).bind fun h2 => some ((0 : Int32), h2)) (fun E => if E = n1 then some ((1 : Int32), h) else if E = n2 then some ((2 : Int32), h) else none)) (WRP x o A c v h) := by
  subst hf
  exact wrap2 (f := some (EXC [n1, n2] c v, h)) (wr ⟨rfl, e, OFF_refl _ _ _⟩) hn hc out ho
/-- the reference, with the numbers of its object -/
def RFV (h : HP) (m : Nat) (v : Nat → Int32) (A : AB) : Prop := MOB h m v ∧ REF h m A.1 ∧ ALO h m ∧ (∃ g, ARR h (m + 2) 204 g) ∧ HIS h m A.2.1 ∧ (∃ sl z, ARR h (m + 4) 408 sl ∧ h (m + 5) = some (.inl (1, 2, .inl z)) ∧ SLR sl z A.2.2.1) ∧ RTX h m v A.2.2.2
theorem RFV_4 {h h' : HP} {m : Nat} {A : AB} {S : SG} {v v' : Nat → Int32} (e : RFV h m v A) (k : OF4 m h h') (k0 : MOB h' m v') (h4 : v' 4 = v 4) (h8 : v' 8 = v 8) (r : REF h' m S) (al : ALO h' m) : RFV h' m v' (S, A.2) := by
  obtain ⟨e1, e2, e3, ⟨g, e4⟩, e5, ⟨sl, z, e6, e7, e8⟩, e9⟩ := e
  exact ⟨k0, r, al, ⟨g, (k _ (by omega) (by omega) (by omega) (by omega)).trans e4⟩, HIS_mv e1 e5 (k _ (by omega) (by omega) (by omega) (by omega)) k0 h4, ⟨sl, z, (k _ (by omega) (by omega) (by omega) (by omega)).trans e6, (k _ (by omega) (by omega) (by omega) (by omega)).trans e7, e8⟩, RTX_mv e9 (k _ (by omega) (by omega) (by omega) (by omega)) h8⟩
theorem RFV_0 {h h' : HP} {m : Nat} {A : AB} {v v' : Nat → Int32} (e : RFV h m v A) (k : OFF m 1 h h') (k0 : MOB h' m v') (h4 : v' 4 = v 4) (h8 : v' 8 = v 8) : RFV h' m v' A := RFV_4 e (OF4_0 k) k0 h4 h8 (REF_mv e.2.1 (k _ (by omega)) k0) (ALO_off e.2.2.1 k (by omega))
theorem X8_holds_is {h : HP} {m : Nat} {v : Nat → Int32} {A : AB} (e : RFV h m v A) {c : Int} (hc : -1000 < c ∧ c < 1000) : WP (f_X8_holds h m (zI c)) (fun r => r.1 = tB (c = 0) ∧ RFV r.2 m (upd v 0 (zI c)) A ∧ OFF m 1 h r.2) := by
  unfold f_X8_holds b_X8_holds_0
  refine wb (kO_e e.1) ?_
  refine wpb (pI_M e.1 (by omega)) ?_
  rintro h1 ⟨q1, q2⟩
  have e1 := RFV_0 e q2 q1 (upd_ne (by omega)) (upd_ne (by omega))
  rw [zl0]
  by_cases c0 : c = 0
  · refine wt ((zI_inj (by omega)).mpr c0) ?_
    exact wr ⟨(tB_1 c0).symm, e1, q2⟩
  · refine wf (fun d => c0 ((zI_inj (by omega)).mp d)) ?_
    exact wr ⟨(tB_0 c0).symm, e1, q2⟩
/-- a call of the reference -/
def RFR (m : Nat) (A : AB) (c v : Int) (h : HP) (r : Int32 × HP) : Prop := (∃ w, RFV r.2 m w A ∧ w 0 = zI c) ∧ (c = 0 → r.1 = zI v) ∧ OFF m 9 h r.2
/-- a call that only reads -/
theorem hold_read {h : HP} {m : Nat} {v : Nat → Int32} {A : AB} (e : RFV h m v A) {c y : Int} (hc : -1000 < c ∧ c < 1000) {g : HP → Option Int32} (hg : c = 0 → ∀ h' w, RFV h' m w A → g h' = some (zI y)) {x : Int32} (hx : x = zI c) : WP ((f_X8_holds h m x).bind fun y1 => if y1.1 = 0 then some ((0 : Int32), y1.2) else (g y1.2).bind fun y3 => some (y3, y1.2)) (RFR m A c y h) := by
  subst hx
  refine wpb (X8_holds_is e hc) ?_
  rintro ⟨z, h1⟩ ⟨q1, q2, q3⟩
  dsimp only at q1 q2 q3 ⊢
  subst q1
  by_cases c0 : c = 0
  · rw [tB_1 c0]
    refine wf (by decide) ?_
    refine wb (hg c0 h1 _ q2) ?_
    exact wr ⟨⟨_, q2, upd_eq rfl⟩, fun _ => rfl, OFF_wide q3 (by omega)⟩
  · rw [tB_0 c0]
    refine wt rfl ?_
    exact wr ⟨⟨_, q2, upd_eq rfl⟩, fun d => absurd d c0, OFF_wide q3 (by omega)⟩
theorem RFV_s {h : HP} {m : Nat} {v : Nat → Int32} {A : AB} (e : RFV h m v A) : RFS h m A := ⟨v, e⟩
/-- one call of the law: both sides agree, and all goes on -/
theorem law_step {cls : Option (Int32 × HP)} {rf : HP → Option (Int32 × HP)} {K : HP → Option Int32} {x m o : Nat} {A A' : AB} {c v : Int} {h : HP} (hm : RFS h m A) (hd : x + 311 ≤ m ∧ m + 9 ≤ o) (hc0 : 0 ≤ c ∧ c < 1000) (hc : WP cls (WRP x o A' c v h)) (hr : ∀ h' w, RFV h' m w A → WP (rf h') (RFR m A' c v h')) (hk : ∀ h', CLS h' x A' → RFS h' m A' → OUTA h' o → K h' = some 1) : (cls.bind fun y5 => (rf y5.2).bind fun y9 => (f_X8_thrown y9.2 m).bind fun y10 => if y10 = y5.1 then if y5.1 = 0 then (aL y9.2 o 0).bind fun x13 => if (lg_cmp x13 (Int32.toInt64 y9.1)) = 0 then K y9.2 else some 0 else K y9.2 else some 0) = some 1 := by
  obtain ⟨⟨y5, h1⟩, e1, ⟨q1, q2, q3, q4, q5⟩⟩ := hc
  rw [e1, Option.bind_some]
  dsimp only at q1 q2 q3 q4 q5 ⊢
  obtain ⟨w0, hw0⟩ := hm
  have hm1 : RFV h1 m w0 A := by
    have k : ∀ b, m ≤ b → b < m + 9 → h1 b = h b := fun b b1 b2 => q5 b (by omega) (by omega)
    obtain ⟨e0, ⟨v', f, r0, r1, r2⟩, ⟨⟨ga, e20⟩, d', D, e21, e22⟩, ⟨g, e3⟩, ⟨w, f', s0, s1, s2⟩, ⟨sl, z, e5, e6, e7⟩, e8⟩ := hw0
    exact ⟨(k _ (by omega) (by omega)).trans e0, ⟨v', f, (k _ (by omega) (by omega)).trans r0, (k _ (by omega) (by omega)).trans r1, r2⟩, ⟨⟨ga, (k _ (by omega) (by omega)).trans e20⟩, d', D, (k _ (by omega) (by omega)).trans e21, e22⟩, ⟨g, (k _ (by omega) (by omega)).trans e3⟩, ⟨w, f', (k _ (by omega) (by omega)).trans s0, (k _ (by omega) (by omega)).trans s1, s2⟩, ⟨sl, z, (k _ (by omega) (by omega)).trans e5, (k _ (by omega) (by omega)).trans e6, e7⟩, RTX_mv e8 (k _ (by omega) (by omega)) rfl⟩
  obtain ⟨⟨y9, h2⟩, e2, ⟨⟨w, r1, r2⟩, r3, r4⟩⟩ := hr h1 w0 hm1
  rw [e2, Option.bind_some]
  dsimp only at r1 r2 r3 r4 ⊢
  have ht : f_X8_thrown h2 m = some (zI c) := by
    unfold f_X8_thrown b_X8_thrown_0
    rw [kO_e r1.1, Option.bind_some, gI_e r1.1 rfl, r2]
    rfl
  have hk2 := hk h2 (CLS_off q2 r4 (by omega)) ⟨w, r1⟩ (by
    obtain ⟨f, hf⟩ := q3
    exact ⟨f, (r4 _ (by omega)).trans hf⟩)
  rw [ht, Option.bind_some, q1, if_pos rfl, zl0]
  by_cases c0 : c = 0
  · rw [if_pos ((zI_inj (by omega)).mpr c0), ← zl0, aL_off (q4 c0) r4 (by omega), Option.bind_some, r3 c0, if_pos ((lg_cmp_eq _ _).mpr rfl), hk2]
  · rw [if_neg (fun d => c0 ((zI_inj (by omega)).mp d)), hk2]
