/-! what a program reads and writes in a world, as partial functions; the same rows over them -/
theorem ob {α β : Type} {o : Option α} {f : α → Option β} {r : β} (h : o.bind f = some r) : ∃ x, o = some x ∧ f x = some r := by
  cases o with
  | none => cases h
  | some x => exact ⟨x, rfl, h⟩
def kO (ci : Nat) (h : HP) (a : Nat) : Option Unit := match h a with
  | some (.inr (c, _)) => if c = ci then some () else none
  | _ => none
def gI (ci k : Nat) (h : HP) (a : Nat) : Option Int32 := match h a with
  | some (.inr (c, fs)) => if c = ci then (match fs[k]? with
    | some (.int x) => some x
    | _ => none) else none
  | _ => none
def gL (ci k : Nat) (h : HP) (a : Nat) : Option Int64 := match h a with
  | some (.inr (c, fs)) => if c = ci then (match fs[k]? with
    | some (.long x) => some x
    | _ => none) else none
  | _ => none
def gR (ci k : Nat) (h : HP) (a : Nat) : Option Nat := match h a with
  | some (.inr (c, fs)) => if c = ci then (match fs[k]? with
    | some (.ref x) => some x
    | _ => none) else none
  | _ => none
def pV (ci k : Nat) (h : HP) (a : Nat) (v : Value) : Option HP := match h a with
  | some (.inr (c, fs)) => if c = ci ∧ k < fs.length then some (hup h a (.inr (ci, fs.set k v))) else none
  | _ => none
def pI (ci k : Nat) (h : HP) (a : Nat) (x : Int32) : Option HP := pV ci k h a (.int x)
def pL (ci k : Nat) (h : HP) (a : Nat) (x : Int64) : Option HP := pV ci k h a (.long x)
def pR (ci k : Nat) (h : HP) (a : Nat) (x : Nat) : Option HP := pV ci k h a (.ref x)
def bz (x : Int32) : Option Int32 := if x = 0 ∨ x = 1 then some x else none
def aI (h : HP) (a : Nat) (i : Int32) : Option Int32 := match h a with
  | some (.inl (0, n, .inl f)) => if i < 0 ∨ n ≤ i.toNatClampNeg then none else some (f i.toNatClampNeg)
  | _ => none
def aZ (h : HP) (a : Nat) (i : Int32) : Option Int32 := match h a with
  | some (.inl (1, n, .inl f)) => if i < 0 ∨ n ≤ i.toNatClampNeg then none else some (f i.toNatClampNeg)
  | _ => none
def aL (h : HP) (a : Nat) (i : Int32) : Option Int64 := match h a with
  | some (.inl (2, n, .inr (.inl f))) => if i < 0 ∨ n ≤ i.toNatClampNeg then none else some (f i.toNatClampNeg)
  | _ => none
def aR (kd : Nat) (h : HP) (a : Nat) (i : Int32) : Option Nat := match h a with
  | some (.inl (k, n, .inr (.inr (.inr (.inr f))))) => if k = kd then (if i < 0 ∨ n ≤ i.toNatClampNeg then none else f i.toNatClampNeg) else none
  | _ => none
def wI (h : HP) (a : Nat) (i x : Int32) : Option HP := match h a with
  | some (.inl (0, n, .inl f)) => if i < 0 ∨ n ≤ i.toNatClampNeg then none else some (hup h a (.inl (0, n, .inl (upd f i.toNatClampNeg x))))
  | _ => none
def wZ (h : HP) (a : Nat) (i x : Int32) : Option HP := match h a with
  | some (.inl (1, n, .inl f)) => if i < 0 ∨ n ≤ i.toNatClampNeg then none else some (hup h a (.inl (1, n, .inl (upd f i.toNatClampNeg (vp_nar .boolean x)))))
  | _ => none
def wL (h : HP) (a : Nat) (i : Int32) (x : Int64) : Option HP := match h a with
  | some (.inl (2, n, .inr (.inl f))) => if i < 0 ∨ n ≤ i.toNatClampNeg then none else some (hup h a (.inl (2, n, .inr (.inl (vp_updL f i.toNatClampNeg x)))))
  | _ => none
def aN (h : HP) (a : Nat) : Option Int32 := match h a with
  | some (.inl (k, x)) => if k < 5 then some (Int32.ofNat x.1) else none
  | _ => none
def cI (h : HP) (a0 : Nat) (sp : Int32) (a : Nat) (dp n : Int32) : Option HP := match h a0 with
  | some (.inl (0, n0, .inl f)) => (match h a with
    | some (.inl (0, n1, .inl g)) => if sp < 0 ∨ dp < 0 ∨ n < 0 ∨ ¬ (sp.toNatClampNeg + n.toNatClampNeg ≤ n0) ∨ ¬ (dp.toNatClampNeg + n.toNatClampNeg ≤ n1) then none else some (hup h a (.inl (0, n1, .inl (va_cpy f g sp.toNatClampNeg dp.toNatClampNeg n.toNatClampNeg))))
    | _ => none)
  | _ => none
theorem kO_spec {ci : Nat} {h : HP} {a : Nat} {u : Unit} (e : kO ci h a = some u) : ∃ fs, h a = some (.inr (ci, fs)) := by
  unfold kO at e
  split at e
  · split at e
    · rename_i c fs hh hc
      subst hc
      exact ⟨_, hh⟩
    · cases e
  · cases e
theorem pV_spec {ci k : Nat} {h h' : HP} {a : Nat} {v : Value} (e : pV ci k h a v = some h') : ∃ fs, h a = some (.inr (ci, fs)) ∧ k < fs.length ∧ h' = hup h a (.inr (ci, fs.set k v)) := by
  unfold pV at e
  split at e
  · split at e
    · rename_i c fs hh hc
      obtain ⟨hc, hl⟩ := hc
      subst hc
      exact ⟨_, hh, hl, (Option.some.inj e).symm⟩
    · cases e
  · cases e
theorem bz_spec {x r : Int32} (e : bz x = some r) : r = x ∧ narrow .boolean (.int x) = .int x ∧ fits .boolean (.int x) = true := by
  unfold bz at e
  split at e
  · rename_i hx
    refine ⟨(Option.some.inj e).symm, ?_⟩
    rcases hx with rfl | rfl
    · exact ⟨rfl, rfl⟩
    · exact ⟨rfl, rfl⟩
  · cases e

theorem gI_spec {ci k : Nat} {h : HP} {a : Nat} {x : Int32} (e : gI ci k h a = some x) : ∃ fs, h a = some (.inr (ci, fs)) ∧ fs[k]? = some (.int x) := by
  unfold gI at e
  split at e
  · split at e
    · rename_i c fs hh hc
      subst hc
      split at e
      · rename_i y hy
        cases e
        exact ⟨_, hh, hy⟩
      · cases e
    · cases e
  · cases e
theorem sp_gI {l : Launch} {X : SCR} {M : MT} {pc : Nat} {lv : List (Nat × Value)} {st : List Value} {h : HP} {sz bc bs : Nat} {Q : PST} {ci idx kf a : Nat} {x : Int32} (hf : FLD ci (mN M).cls idx kf) (d : decode (mB M) pc = .ok (.getfield idx, 3)) (e : gI ci kf h a = some x) (kk : SP l X M (pc + 3) lv (.int x :: st) h sz bc bs Q) : SP l X M pc lv (.ref a :: st) h sz bc bs Q := by
  obtain ⟨fs, h1, h2⟩ := gI_spec e
  exact sp_get hf d h1 h2 kk
theorem gL_spec {ci k : Nat} {h : HP} {a : Nat} {x : Int64} (e : gL ci k h a = some x) : ∃ fs, h a = some (.inr (ci, fs)) ∧ fs[k]? = some (.long x) := by
  unfold gL at e
  split at e
  · split at e
    · rename_i c fs hh hc
      subst hc
      split at e
      · rename_i y hy
        cases e
        exact ⟨_, hh, hy⟩
      · cases e
    · cases e
  · cases e
theorem sp_gL {l : Launch} {X : SCR} {M : MT} {pc : Nat} {lv : List (Nat × Value)} {st : List Value} {h : HP} {sz bc bs : Nat} {Q : PST} {ci idx kf a : Nat} {x : Int64} (hf : FLD ci (mN M).cls idx kf) (d : decode (mB M) pc = .ok (.getfield idx, 3)) (e : gL ci kf h a = some x) (kk : SP l X M (pc + 3) lv (.long x :: st) h sz bc bs Q) : SP l X M pc lv (.ref a :: st) h sz bc bs Q := by
  obtain ⟨fs, h1, h2⟩ := gL_spec e
  exact sp_get hf d h1 h2 kk
theorem gR_spec {ci k : Nat} {h : HP} {a : Nat} {x : Nat} (e : gR ci k h a = some x) : ∃ fs, h a = some (.inr (ci, fs)) ∧ fs[k]? = some (.ref x) := by
  unfold gR at e
  split at e
  · split at e
    · rename_i c fs hh hc
      subst hc
      split at e
      · rename_i y hy
        cases e
        exact ⟨_, hh, hy⟩
      · cases e
    · cases e
  · cases e
theorem sp_gR {l : Launch} {X : SCR} {M : MT} {pc : Nat} {lv : List (Nat × Value)} {st : List Value} {h : HP} {sz bc bs : Nat} {Q : PST} {ci idx kf a : Nat} {x : Nat} (hf : FLD ci (mN M).cls idx kf) (d : decode (mB M) pc = .ok (.getfield idx, 3)) (e : gR ci kf h a = some x) (kk : SP l X M (pc + 3) lv (.ref x :: st) h sz bc bs Q) : SP l X M pc lv (.ref a :: st) h sz bc bs Q := by
  obtain ⟨fs, h1, h2⟩ := gR_spec e
  exact sp_get hf d h1 h2 kk
theorem sp_pI {l : Launch} {X : SCR} {M : MT} {pc : Nat} {lv : List (Nat × Value)} {st : List Value} {h : HP} {sz bc bs : Nat} {Q : PST} {ci idx kf a : Nat} {x : Int32} {h' : HP} (hf : PFL ci (mN M).cls idx kf .int false) (d : decode (mB M) pc = .ok (.putfield idx, 3)) (e : pI ci kf h a x = some h') (kk : ∀ sz', SP l X M (pc + 3) lv st h' sz' bc bs Q) : SP l X M pc lv (.int x :: .ref a :: st) h sz bc bs Q := by
  obtain ⟨fs, h1, h2, h3⟩ := pV_spec e
  refine sp_put hf d h1 h2 rfl rfl (fun sz' => ?_)
  rw [← h3]
  exact kk sz'
theorem sp_pL {l : Launch} {X : SCR} {M : MT} {pc : Nat} {lv : List (Nat × Value)} {st : List Value} {h : HP} {sz bc bs : Nat} {Q : PST} {ci idx kf a : Nat} {x : Int64} {h' : HP} (hf : PFL ci (mN M).cls idx kf .long false) (d : decode (mB M) pc = .ok (.putfield idx, 3)) (e : pL ci kf h a x = some h') (kk : ∀ sz', SP l X M (pc + 3) lv st h' sz' bc bs Q) : SP l X M pc lv (.long x :: .ref a :: st) h sz bc bs Q := by
  obtain ⟨fs, h1, h2, h3⟩ := pV_spec e
  refine sp_put hf d h1 h2 rfl rfl (fun sz' => ?_)
  rw [← h3]
  exact kk sz'
theorem sp_pZ {l : Launch} {X : SCR} {M : MT} {pc : Nat} {lv : List (Nat × Value)} {st : List Value} {h : HP} {sz bc bs : Nat} {Q : PST} {ci idx kf a : Nat} {x y : Int32} {h' : HP} (hf : PFL ci (mN M).cls idx kf .boolean false) (d : decode (mB M) pc = .ok (.putfield idx, 3)) (eb : bz x = some y) (e : pI ci kf h a y = some h') (kk : ∀ sz', SP l X M (pc + 3) lv st h' sz' bc bs Q) : SP l X M pc lv (.int x :: .ref a :: st) h sz bc bs Q := by
  obtain ⟨b1, b2, b3⟩ := bz_spec eb
  subst b1
  obtain ⟨fs, h1, h2, h3⟩ := pV_spec e
  refine sp_put hf d h1 h2 b2 b3 (fun sz' => ?_)
  rw [← h3]
  exact kk sz'
theorem sp_pRF {l : Launch} {X : SCR} {M : MT} {pc : Nat} {lv : List (Nat × Value)} {st : List Value} {h : HP} {sz bc bs : Nat} {Q : PST} {ci idx kf a x : Nat} {ty : FieldType} {h' : HP} (hf : PFL ci (mN M).cls idx kf ty true) (hini : (mN M).name = "<init>") (d : decode (mB M) pc = .ok (.putfield idx, 3)) (hn : narrow ty (.ref x) = .ref x) (hfit : fits ty (.ref x) = true) (e : pR ci kf h a x = some h') (kk : SP l X M (pc + 3) lv st h' sz bc bs Q) : SP l X M pc lv (.ref x :: .ref a :: st) h sz bc bs Q := by
  obtain ⟨fs, h1, h2, h3⟩ := pV_spec e
  refine sp_putF hf hini d h1 h2 hn hfit ?_
  rw [← h3]
  exact kk
theorem sp_pIX {l : Launch} {X : SCR} {M : MT} {pc : Nat} {lv : List (Nat × Value)} {st : List Value} {h : HP} {sz bc bs : Nat} {Q : PST} {ci idx kf a : Nat} {x : Int32} {h' : HP} (hf : PFL ci (mN M).cls idx kf .int false) (d : decode (mB M) pc = .ok (.putfield idx, 3)) (e : pI ci kf h a x = some h') (kk : SP l X M (pc + 3) lv st h' sz bc bs Q) : SP l X M pc lv (.int x :: .ref a :: st) h sz bc bs Q := by
  obtain ⟨fs, h1, h2, h3⟩ := pV_spec e
  refine sp_putX hf d h1 h2 rfl rfl ?_
  rw [← h3]
  exact kk
theorem aI_spec {h : HP} {a : Nat} {i : Int32} {x : Int32} (e : aI h a i = some x) : ∃ n f, h a = some (.inl (0, n, .inl f)) ∧ vp_in i n ∧ x = f i.toNatClampNeg := by
  unfold aI at e
  split at e
  · split at e
    · cases e
    · rename_i n f hh hc
      exact ⟨_, _, hh, hc, (Option.some.inj e).symm⟩
  · cases e
theorem sp_aI {l : Launch} {X : SCR} {M : MT} {pc : Nat} {lv : List (Nat × Value)} {st : List Value} {h : HP} {sz bc bs : Nat} {Q : PST} {a : Nat} {i : Int32} {x : Int32} (d : decode (mB M) pc = .ok (.iaload, 1)) (e : aI h a i = some x) (kk : SP l X M (pc + 1) lv (.int x :: st) h sz bc bs Q) : SP l X M pc lv (.int i :: .ref a :: st) h sz bc bs Q := by
  obtain ⟨n, f, h1, h2, h3⟩ := aI_spec e
  subst h3
  exact sp_iald d h1 h2 kk
theorem aZ_spec {h : HP} {a : Nat} {i : Int32} {x : Int32} (e : aZ h a i = some x) : ∃ n f, h a = some (.inl (1, n, .inl f)) ∧ vp_in i n ∧ x = f i.toNatClampNeg := by
  unfold aZ at e
  split at e
  · split at e
    · cases e
    · rename_i n f hh hc
      exact ⟨_, _, hh, hc, (Option.some.inj e).symm⟩
  · cases e
theorem sp_aZ {l : Launch} {X : SCR} {M : MT} {pc : Nat} {lv : List (Nat × Value)} {st : List Value} {h : HP} {sz bc bs : Nat} {Q : PST} {a : Nat} {i : Int32} {x : Int32} (d : decode (mB M) pc = .ok (.baload, 1)) (e : aZ h a i = some x) (kk : SP l X M (pc + 1) lv (.int x :: st) h sz bc bs Q) : SP l X M pc lv (.int i :: .ref a :: st) h sz bc bs Q := by
  obtain ⟨n, f, h1, h2, h3⟩ := aZ_spec e
  subst h3
  exact sp_zald d h1 h2 kk
theorem aL_spec {h : HP} {a : Nat} {i : Int32} {x : Int64} (e : aL h a i = some x) : ∃ n f, h a = some (.inl (2, n, .inr (.inl f))) ∧ vp_in i n ∧ x = f i.toNatClampNeg := by
  unfold aL at e
  split at e
  · split at e
    · cases e
    · rename_i n f hh hc
      exact ⟨_, _, hh, hc, (Option.some.inj e).symm⟩
  · cases e
theorem aR_spec {kd : Nat} {h : HP} {a : Nat} {i : Int32} {x : Nat} (e : aR kd h a i = some x) : ∃ n f, h a = some (.inl (kd, n, .inr (.inr (.inr (.inr f))))) ∧ vp_in i n ∧ f i.toNatClampNeg = some x := by
  unfold aR at e
  split at e
  · split at e
    · rename_i k n f hh hk
      subst hk
      split at e
      · cases e
      · rename_i hc
        exact ⟨_, _, hh, hc, e⟩
    · cases e
  · cases e
theorem sp_aR3 {l : Launch} {X : SCR} {M : MT} {pc : Nat} {lv : List (Nat × Value)} {st : List Value} {h : HP} {sz bc bs : Nat} {Q : PST} {a x : Nat} {i : Int32} (d : decode (mB M) pc = .ok (.aaload, 1)) (e : aR 3 h a i = some x) (kk : SP l X M (pc + 1) lv (.ref x :: st) h sz bc bs Q) : SP l X M pc lv (.int i :: .ref a :: st) h sz bc bs Q := by
  obtain ⟨n, f, h1, h2, h3⟩ := aR_spec e
  exact sp_aald3 d h1 h2 h3 kk
theorem sp_aR4 {l : Launch} {X : SCR} {M : MT} {pc : Nat} {lv : List (Nat × Value)} {st : List Value} {h : HP} {sz bc bs : Nat} {Q : PST} {a x : Nat} {i : Int32} (d : decode (mB M) pc = .ok (.aaload, 1)) (e : aR 4 h a i = some x) (kk : SP l X M (pc + 1) lv (.ref x :: st) h sz bc bs Q) : SP l X M pc lv (.int i :: .ref a :: st) h sz bc bs Q := by
  obtain ⟨n, f, h1, h2, h3⟩ := aR_spec e
  exact sp_aald4 d h1 h2 h3 kk
theorem wI_spec {h h' : HP} {a : Nat} {i : Int32} {x : Int32} (e : wI h a i x = some h') : ∃ n f, h a = some (.inl (0, n, .inl f)) ∧ vp_in i n ∧ h' = hup h a (.inl (0, n, .inl (upd f i.toNatClampNeg x))) := by
  unfold wI at e
  split at e
  · split at e
    · cases e
    · rename_i n f hh hc
      exact ⟨_, _, hh, hc, (Option.some.inj e).symm⟩
  · cases e
theorem sp_wI {l : Launch} {X : SCR} {M : MT} {pc : Nat} {lv : List (Nat × Value)} {st : List Value} {h : HP} {sz bc bs : Nat} {Q : PST} {a : Nat} {i : Int32} {x : Int32} {h' : HP} (d : decode (mB M) pc = .ok (.iastore, 1)) (e : wI h a i x = some h') (kk : ∀ sz', SP l X M (pc + 1) lv st h' sz' bc bs Q) : SP l X M pc lv (.int x :: .int i :: .ref a :: st) h sz bc bs Q := by
  obtain ⟨n, f, h1, h2, h3⟩ := wI_spec e
  refine sp_iast d h1 h2 (fun sz' => ?_)
  rw [← h3]
  exact kk sz'
theorem wZ_spec {h h' : HP} {a : Nat} {i : Int32} {x : Int32} (e : wZ h a i x = some h') : ∃ n f, h a = some (.inl (1, n, .inl f)) ∧ vp_in i n ∧ h' = hup h a (.inl (1, n, .inl (upd f i.toNatClampNeg (vp_nar .boolean x)))) := by
  unfold wZ at e
  split at e
  · split at e
    · cases e
    · rename_i n f hh hc
      exact ⟨_, _, hh, hc, (Option.some.inj e).symm⟩
  · cases e
theorem sp_wZ {l : Launch} {X : SCR} {M : MT} {pc : Nat} {lv : List (Nat × Value)} {st : List Value} {h : HP} {sz bc bs : Nat} {Q : PST} {a : Nat} {i : Int32} {x : Int32} {h' : HP} (d : decode (mB M) pc = .ok (.bastore, 1)) (e : wZ h a i x = some h') (kk : ∀ sz', SP l X M (pc + 1) lv st h' sz' bc bs Q) : SP l X M pc lv (.int x :: .int i :: .ref a :: st) h sz bc bs Q := by
  obtain ⟨n, f, h1, h2, h3⟩ := wZ_spec e
  refine sp_zast d h1 h2 (fun sz' => ?_)
  rw [← h3]
  exact kk sz'
theorem wL_spec {h h' : HP} {a : Nat} {i : Int32} {x : Int64} (e : wL h a i x = some h') : ∃ n f, h a = some (.inl (2, n, .inr (.inl f))) ∧ vp_in i n ∧ h' = hup h a (.inl (2, n, .inr (.inl (vp_updL f i.toNatClampNeg x)))) := by
  unfold wL at e
  split at e
  · split at e
    · cases e
    · rename_i n f hh hc
      exact ⟨_, _, hh, hc, (Option.some.inj e).symm⟩
  · cases e
theorem sp_aN {l : Launch} {X : SCR} {M : MT} {pc : Nat} {lv : List (Nat × Value)} {st : List Value} {h : HP} {sz bc bs : Nat} {Q : PST} {a : Nat} {x : Int32} (d : decode (mB M) pc = .ok (.arraylength, 1)) (e : aN h a = some x) (kk : SP l X M (pc + 1) lv (.int x :: st) h sz bc bs Q) : SP l X M pc lv (.ref a :: st) h sz bc bs Q := by
  unfold aN at e
  split at e
  · split at e
    · rename_i k y hh hk
      cases e
      exact sp_alen d hk hh kk
    · cases e
  · cases e
theorem sp_cI {l : Launch} {X : SCR} {M : MT} {pc : Nat} {lv : List (Nat × Value)} {st : List Value} {h : HP} {sz bc bs : Nat} {Q : PST} {idx a0 a : Nat} {sp dp n : Int32} {h' : HP} (hw : Cond.methodLink (mN M).cls idx arraycopyName ∈ BIG) (hw2 : Cond.native arraycopyName ∈ BIG) (hw3 : Cond.static arraycopyName ∈ BIG) (hw4 : Cond.initialized "java/lang/System" ∈ BIG) (d : decode (mB M) pc = .ok (.invokestatic idx, 3)) (hfr : 1 ≤ (mRm M).frames) (hlo : (st.map fun v => v.category).sum + (nativeFrameWords "java/lang/System" "arraycopy" 5 + 11) ≤ (mRm M).locals) (e : cI h a0 sp a dp n = some h') (kk : ∀ sz', SP l X M (pc + 3) lv st h' sz' bc bs Q) : SP l X M pc lv (.int n :: .int dp :: .ref a :: .int sp :: .ref a0 :: st) h sz bc bs Q := by
  unfold cI at e
  split at e
  · split at e
    · split at e
      · cases e
      · rename_i y1 n0 f h1 y2 n1 g h2 hc
        simp only [not_or, Classical.not_not] at hc
        obtain ⟨c1, c2, c3, c4, c5⟩ := hc
        refine sp_copyi hw hw2 hw3 hw4 d h1 h2 c1 c2 c3 c4 c5 hfr hlo (fun sz' => ?_)
        rw [Option.some.inj e]
        exact kk sz'
    · cases e
  · cases e
theorem sp_iretZ {l : Launch} {X : SCR} {M : MT} {pc : Nat} {lv : List (Nat × Value)} {h : HP} {sz bc bs : Nat} {Q : PST} {v r : Int32} (d : decode (mB M) pc = .ok (.ireturn, 1)) (hr : mRt M = some .boolean) (e : bz v = some r) (hq : Q (.inl (some (.int r))) h sz) : SP l X M pc lv [.int v] h sz bc bs Q := by
  obtain ⟨b1, b2, b3⟩ := bz_spec e
  subst b1
  exact sp_ireturn d hr b2 hq
theorem sp_sub {l : Launch} {X : SCR} {M : MT} {pc : Nat} {lv : List (Nat × Value)} {st : List Value} {h : HP} {sz bc bs : Nat} {Q : PST} {lv' : List (Nat × Value)} (ks : List Nat) (hk : lv_pick lv ks = lv') (kk : SP l X M pc lv' st h sz bc bs Q) : SP l X M pc lv st h sz bc bs Q :=
  fun p e s m args below meth c D cA A H locs cells slots ls hs C hh hP hD hS hz hl hc hs2 => kk p e s m args below meth c D cA A H locs cells slots ls hs C hh hP hD hS hz (lv_sub hl ks hk) hc hs2
/-- Java's rests, shifts, the greater and the lesser one -/
def jrem (x y : Int32) : Int32 := x - x / y * y
def jlrem (x y : Int64) : Int64 := x - x / y * y
def jlushr (x : Int64) (y : Int32) : Int64 := (x.toUInt64 >>> (y.toInt64.toUInt64 &&& Int64.toUInt64 63)).toInt64
def jlshl (x : Int64) (y : Int32) : Int64 := x <<< (y.toInt64 &&& 63)
def jmax (x y : Int32) : Int32 := if x < y then y else x
def jmin (x y : Int32) : Int32 := if y < x then y else x
theorem sp_iremJ {l : Launch} {X : SCR} {M : MT} {pc : Nat} {lv : List (Nat × Value)} {st : List Value} {h : HP} {sz bc bs : Nat} {Q : PST} {x y : Int32} (d : decode (mB M) pc = .ok (.irem, 1)) (hne : ¬ y = 0) (kk : SP l X M (pc + 1) lv (.int (jrem x y) :: st) h sz bc bs Q) : SP l X M pc lv (.int y :: .int x :: st) h sz bc bs Q := sp_irem d hne kk
theorem sp_lremJ {l : Launch} {X : SCR} {M : MT} {pc : Nat} {lv : List (Nat × Value)} {st : List Value} {h : HP} {sz bc bs : Nat} {Q : PST} {x y : Int64} (d : decode (mB M) pc = .ok (.lrem, 1)) (hne : ¬ y = 0) (kk : SP l X M (pc + 1) lv (.long (jlrem x y) :: st) h sz bc bs Q) : SP l X M pc lv (.long y :: .long x :: st) h sz bc bs Q := sp_lrem d hne kk
theorem sp_lushrJ {l : Launch} {X : SCR} {M : MT} {pc : Nat} {lv : List (Nat × Value)} {st : List Value} {h : HP} {sz bc bs : Nat} {Q : PST} {x : Int64} {y : Int32} (d : decode (mB M) pc = .ok (.lushr, 1)) (kk : SP l X M (pc + 1) lv (.long (jlushr x y) :: st) h sz bc bs Q) : SP l X M pc lv (.int y :: .long x :: st) h sz bc bs Q := sp_lushr d kk
theorem sp_lshlJ {l : Launch} {X : SCR} {M : MT} {pc : Nat} {lv : List (Nat × Value)} {st : List Value} {h : HP} {sz bc bs : Nat} {Q : PST} {x : Int64} {y : Int32} (d : decode (mB M) pc = .ok (.lshl, 1)) (kk : SP l X M (pc + 1) lv (.long (jlshl x y) :: st) h sz bc bs Q) : SP l X M pc lv (.int y :: .long x :: st) h sz bc bs Q := sp_lshl d kk
/-- switches -/
theorem tbl_out {x : Int32} {lo hi : Int} (h : ∀ i : Int, lo ≤ i → i ≤ hi → x.toInt ≠ i) : x.toInt < lo ∨ hi < x.toInt := by
  rcases Int.lt_or_le x.toInt lo with z | z
  · exact Or.inl z
  · rcases Int.lt_or_le hi x.toInt with y | y
    · exact Or.inr y
    · exact absurd rfl (h _ z y)
/-- what is made and seen no more -/
def hdel (h : HP) (a : Nat) : HP := fun b => if b = a then none else h b
theorem sp_drop {l : Launch} {X : SCR} {M : MT} {pc : Nat} {lv : List (Nat × Value)} {st : List Value} {h : HP} {sz bc bs : Nat} {Q : PST} (q : Nat) (kk : SP l X M pc lv st (hdel h q) sz bc bs Q) : SP l X M pc lv st h sz bc bs Q := by
  intro p e s m args below meth c D cA A H locs cells slots ls hs C hh hP hD hS hz hl hc hs2
  have hnd := hnd_of hD
  have hsub : ∀ (k : Nat) (x : Nat × CE), (hs.filter (fun z => z.1 != q))[k]? = some x → ∃ j : Nat, hs[j]? = some x ∧ x.1 ≠ q := by
    intro k x hk
    obtain ⟨hm, hq⟩ := List.mem_filter.mp (List.mem_of_getElem? hk)
    obtain ⟨j, hj⟩ := List.getElem?_of_mem hm
    exact ⟨j, hj, by simpa using hq⟩
  have hpw : hs.Pairwise (fun x y => x.1 ≠ y.1) := by
    rw [List.pairwise_iff_getElem]
    intro i j hi hj hij he
    have := hnd i j _ _ (List.getElem?_eq_getElem hi) (List.getElem?_eq_getElem hj) he
    omega
  have hpf : (hs.filter (fun z => z.1 != q)).Pairwise (fun x y => x.1 ≠ y.1) := hpw.filter _
  have hnd2 : ∀ (i j : Nat) (x y : Nat × CE), (hs.filter (fun z => z.1 != q))[i]? = some x → (hs.filter (fun z => z.1 != q))[j]? = some y → x.1 = y.1 → i = j := by
    intro i j x y hi hj hxy
    rw [List.pairwise_iff_getElem] at hpf
    obtain ⟨li, ei⟩ := List.getElem?_eq_some_iff.mp hi
    obtain ⟨lj, ej⟩ := List.getElem?_eq_some_iff.mp hj
    rcases Nat.lt_trichotomy i j with z | z | z
    · exact absurd (by rw [ei, ej]; exact hxy) (hpf i j li lj z)
    · exact z
    · exact absurd (by rw [ei, ej]; exact hxy.symm) (hpf j i lj li z)
  refine kk p e s m args below meth c D cA A H locs cells slots ls (hs.filter (fun z => z.1 != q)) C ?_ ?_ ?_ hS hz hl hc hs2
  · funext b
    unfold hdel
    by_cases hb : b = q
    · rw [if_pos hb]
      refine (hget_none fun k x hk hx => ?_).symm
      obtain ⟨j, hj, hne⟩ := hsub k x hk
      exact hne (hx.trans hb)
    · rw [if_neg hb, hh]
      cases hg : hget hs b with
      | none =>
        refine (hget_none fun k x hk hx => ?_).symm
        obtain ⟨j, hj, hne⟩ := hsub k x hk
        have h9 := hget_of hnd (k := j) (a := x.1) (e := x.2) hj
        rw [hx, hg] at h9
        cases h9
      | some e2 =>
        obtain ⟨j, hj⟩ := hget_at hg
        have hm : (b, e2) ∈ hs.filter (fun z => z.1 != q) := List.mem_filter.mpr ⟨List.mem_of_getElem? hj, by simpa using hb⟩
        obtain ⟨k, hk⟩ := List.getElem?_of_mem hm
        exact (hget_of hnd2 hk).symm
  · intro k x hk
    obtain ⟨x', hk', rfl⟩ := cvS_at' hk
    obtain ⟨j, hj, -⟩ := hsub k x' hk'
    exact hP j _ (cvS_at hj)
  · refine ⟨fun i j x y hi hj hxy => ?_, fun k x hk => ?_⟩
    · obtain ⟨x', hi', rfl⟩ := cvS_at' hi
      obtain ⟨y', hj', rfl⟩ := cvS_at' hj
      exact hnd2 i j x' y' hi' hj' hxy
    · obtain ⟨x', hk', rfl⟩ := cvS_at' hk
      obtain ⟨j, hj, -⟩ := hsub k x' hk'
      exact hD.2 j _ (cvS_at hj)

theorem sp_mmaxJ {l : Launch} {X : SCR} {M : MT} {pc : Nat} {lv : List (Nat × Value)} {st : List Value} {h : HP} {sz bc bs : Nat} {Q : PST} {idx : Nat} {x y : Int32} (hw : Cond.methodLink (mN M).cls idx Lib.Math.max.name ∈ BIG) (hw2 : Cond.static Lib.Math.max.name ∈ BIG) (hw3 : Cond.initialized "java/lang/Math" ∈ BIG) (hw4 : Cond.code Lib.Math.max.name Lib.Math.max.code 2 (some .int) ∈ BIG) (d : decode (mB M) pc = .ok (.invokestatic idx, 3)) (hfr : 1 ≤ (mRm M).frames) (hlo : (st.map fun v => v.category).sum + 13 ≤ (mRm M).locals) (kk : SP l X M (pc + 3) lv (.int (jmax x y) :: st) h sz bc bs Q) : SP l X M pc lv (.int y :: .int x :: st) h sz bc bs Q := sp_mmax hw hw2 hw3 hw4 d hfr hlo kk
theorem sp_mminJ {l : Launch} {X : SCR} {M : MT} {pc : Nat} {lv : List (Nat × Value)} {st : List Value} {h : HP} {sz bc bs : Nat} {Q : PST} {idx : Nat} {x y : Int32} (hw : Cond.methodLink (mN M).cls idx Lib.Math.min.name ∈ BIG) (hw2 : Cond.static Lib.Math.min.name ∈ BIG) (hw3 : Cond.initialized "java/lang/Math" ∈ BIG) (hw4 : Cond.code Lib.Math.min.name Lib.Math.min.code 2 (some .int) ∈ BIG) (d : decode (mB M) pc = .ok (.invokestatic idx, 3)) (hfr : 1 ≤ (mRm M).frames) (hlo : (st.map fun v => v.category).sum + 13 ≤ (mRm M).locals) (kk : SP l X M (pc + 3) lv (.int (jmin x y) :: st) h sz bc bs Q) : SP l X M pc lv (.int y :: .int x :: st) h sz bc bs Q := sp_mmin hw hw2 hw3 hw4 d hfr hlo kk
/-! what a program makes, and out of which room -/
def tk (a n : Nat) : Option Nat := if n ≤ a then some (a - n) else none
theorem tk_spec {a n b : Nat} (e : tk a n = some b) : a = b + n := by
  unfold tk at e
  split at e
  · have := Option.some.inj e
    omega
  · cases e
def alN (bc bs : Nat) (n : Int32) : Option (Nat × Nat) := if n < 0 ∨ ¬ (n.toNatClampNeg * 8 ≤ 536870912) then none else (tk bc 1).bind fun a => (tk bs n.toNatClampNeg).bind fun b => some (a, b)
theorem alN_spec {bc bs : Nat} {n : Int32} {b : Nat × Nat} (e : alN bc bs n = some b) : ¬ n < 0 ∧ n.toNatClampNeg * 8 ≤ 536870912 ∧ bc = b.1 + 1 ∧ bs = b.2 + n.toNatClampNeg := by
  unfold alN at e
  split at e
  · cases e
  · rename_i hc
    simp only [not_or, Classical.not_not] at hc
    obtain ⟨x, e1, e⟩ := ob e
    obtain ⟨y, e2, e⟩ := ob e
    obtain rfl := Option.some.inj e
    exact ⟨hc.1, hc.2, tk_spec e1, tk_spec e2⟩
def nwO (h : HP) (q ci : Nat) (fs : List Value) : Option HP := some (hup h q (.inr (ci, fs)))
def nwI (h : HP) (q : Nat) (n : Int32) : Option HP := some (hup h q (.inl (0, n.toNatClampNeg, .inl (fun _ => 0))))
def nwZ (h : HP) (q : Nat) (n : Int32) : Option HP := some (hup h q (.inl (1, n.toNatClampNeg, .inl (fun _ => 0))))
def nwJ (h : HP) (q : Nat) (n : Int32) : Option HP := some (hup h q (.inl (2, n.toNatClampNeg, .inr (.inl (fun _ => 0)))))
def nwR (kd : Nat) (h : HP) (q : Nat) (n : Int32) : Option HP := some (hup h q (.inl (kd, n.toNatClampNeg, .inr (.inr (.inr (.inr (fun _ => none)))))))
def wR (kd ci : Nat) (h : HP) (a : Nat) (i : Int32) (y : Nat) : Option HP := match h a with
  | some (.inl (k, n, .inr (.inr (.inr (.inr f))))) => if k = kd then (if i < 0 ∨ n ≤ i.toNatClampNeg then none else (kO ci h y).bind fun _ => some (hup h a (.inl (kd, n, .inr (.inr (.inr (.inr (va_up f i.toNatClampNeg (some y))))))))) else none
  | _ => none
theorem wR_spec {kd ci : Nat} {h h' : HP} {a : Nat} {i : Int32} {y : Nat} (e : wR kd ci h a i y = some h') : ∃ n f vs, h a = some (.inl (kd, n, .inr (.inr (.inr (.inr f))))) ∧ vp_in i n ∧ h y = some (.inr (ci, vs)) ∧ h' = hup h a (.inl (kd, n, .inr (.inr (.inr (.inr (va_up f i.toNatClampNeg (some y))))))) := by
  unfold wR at e
  split at e
  · split at e
    · rename_i k n f hh hk
      subst hk
      split at e
      · cases e
      · rename_i hc
        obtain ⟨u, eu, e⟩ := ob e
        obtain ⟨vs, hv⟩ := kO_spec eu
        exact ⟨_, _, _, hh, hc, hv, (Option.some.inj e).symm⟩
    · cases e
  · cases e
theorem sp_wR3 {l : Launch} {X : SCR} {M : MT} {pc : Nat} {lv : List (Nat × Value)} {st : List Value} {h h' : HP} {sz bc bs : Nat} {Q : PST} {a y : Nat} {i : Int32} (d : decode (mB M) pc = .ok (.aastore, 1)) (e : wR 3 2 h a i y = some h') (kk : SP l X M (pc + 1) lv st h' sz bc bs Q) : SP l X M pc lv (.ref y :: .int i :: .ref a :: st) h sz bc bs Q := by
  obtain ⟨n, f, vs, h1, h2, h3, h4⟩ := wR_spec e
  refine sp_aast3 d h1 h2 h3 ?_
  rw [← h4]
  exact kk
theorem sp_wR4 {l : Launch} {X : SCR} {M : MT} {pc : Nat} {lv : List (Nat × Value)} {st : List Value} {h h' : HP} {sz bc bs : Nat} {Q : PST} {a y : Nat} {i : Int32} (d : decode (mB M) pc = .ok (.aastore, 1)) (e : wR 4 3 h a i y = some h') (kk : SP l X M (pc + 1) lv st h' sz bc bs Q) : SP l X M pc lv (.ref y :: .int i :: .ref a :: st) h sz bc bs Q := by
  obtain ⟨n, f, vs, h1, h2, h3, h4⟩ := wR_spec e
  refine sp_aast4 d h1 h2 h3 ?_
  rw [← h4]
  exact kk
theorem sp_fresh {l : Launch} {X : SCR} {M : MT} {pc : Nat} {lv : List (Nat × Value)} {st : List Value} {h : HP} {sz bc bs : Nat} {Q : PST} (kk : (∀ a e, h a = some e → a < sz) → SP l X M pc lv st h sz bc bs Q) : SP l X M pc lv st h sz bc bs Q := by
  intro p e s m args below meth c D cA A H locs cells slots ls hs C hh hP hD hS hz hl hc hs2
  exact kk (fun a e ha => by rw [← hz]; exact hget_lt hP (by rw [← hh]; exact ha)) p e s m args below meth c D cA A H locs cells slots ls hs C hh hP hD hS hz hl hc hs2
theorem big_at {i : Nat} {w : Cond} (h : lw_tbl[i]? = some w) (g : goodWord w = true) : w ∈ BIG := big_in (List.mem_of_getElem? h) g
theorem big_sub {L : List Cond} (h : L.all (fun w => decide (w ∈ lw_tbl) && goodWord w) = true) : ∀ w ∈ L, w ∈ BIG := fun w hw => by
  have h1 := List.all_eq_true.mp h w hw
  simp only [Bool.and_eq_true, decide_eq_true_eq] at h1
  exact big_in h1.1 h1.2
def FU : Nat := 4096
