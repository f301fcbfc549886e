/-! the layer over the machine: worlds as functions, one judgement SP for a method's body, rows for each instruction -/
-- worlds
abbrev CE : Type := (Nat × vp_A) ⊕ (Nat × List Value)
abbrev HP : Type := Nat → Option CE
abbrev HS : Type := List (Nat × CE)
def cvE (cA : Nat → ClassId) (e : CE) : va_E := match e with
  | .inl x => .inl (cA x.1, x.2)
  | .inr o => .inr o
def cvS (cA : Nat → ClassId) (hs : HS) : va_W := hs.map (fun q => (q.1, cvE cA q.2))
def hget (hs : HS) : HP := fun a => (hs.find? (fun q => q.1 == a)).map (fun q => q.2)
def hup (h : HP) (a : Nat) (e : CE) : HP := fun b => if b = a then some e else h b
def kTy (k : Nat) : FieldType := if k = 0 then .int else if k = 1 then .boolean else if k = 2 then .int else if k = 3 then .object RX2 else .object RX3
def tysL (cA : Nat → ClassId) : List (ClassId × FieldType) := (List.range 5).map (fun k => (cA k, kTy k))
theorem tysL_at {cA : Nat → ClassId} {k : Nat} (h : k < 5) : (tysL cA)[k]? = some (cA k, kTy k) := by
  simp [tysL, h]
theorem cvS_at {cA : Nat → ClassId} {hs : HS} {k : Nat} {q : Nat × CE} (h : hs[k]? = some q) : (cvS cA hs)[k]? = some (q.1, cvE cA q.2) := by
  simp [cvS, h]
theorem cvS_at' {cA : Nat → ClassId} {hs : HS} {k : Nat} {q : Nat × va_E} (h : (cvS cA hs)[k]? = some q) : ∃ q', hs[k]? = some q' ∧ q = (q'.1, cvE cA q'.2) := by
  simp [cvS] at h
  obtain ⟨a, b, h1, h2⟩ := h
  exact ⟨(a, b), h1, h2.symm⟩
theorem hget_at {hs : HS} {a : Nat} {e : CE} (h : hget hs a = some e) : ∃ k : Nat, hs[k]? = some (a, e) := by
  simp only [hget, Option.map_eq_some_iff] at h
  obtain ⟨q, h1, h2⟩ := h
  have h3 := List.find?_some h1
  have h4 := List.mem_of_find?_eq_some h1
  simp at h3
  obtain ⟨k, hk⟩ := List.getElem?_of_mem h4
  refine ⟨k, ?_⟩
  rw [hk]
  obtain ⟨a', e'⟩ := q
  simp at h2 h3
  rw [h2, h3]
/-- addresses are apart -/
def hnd (hs : HS) : Prop := ∀ (i j : Nat) (p q : Nat × CE), hs[i]? = some p → hs[j]? = some q → p.1 = q.1 → i = j
theorem hnd_of {cA : Nat → ClassId} {A : Nat → Prop} {hs : HS} (h : va_D A (cvS cA hs)) : hnd hs := fun i j p q hi hj e => h.1 i j _ _ (cvS_at hi) (cvS_at hj) e
theorem hget_of {hs : HS} (hn : hnd hs) {k a : Nat} {e : CE} (h : hs[k]? = some (a, e)) : hget hs a = some e := by
  have hm : (a, e) ∈ hs := List.mem_of_getElem? h
  unfold hget
  cases hf : hs.find? (fun q => q.1 == a) with
  | none => exact absurd (List.find?_eq_none.mp hf _ hm) (by simp)
  | some q =>
    have h3 := List.find?_some hf
    obtain ⟨j, hj⟩ := List.getElem?_of_mem (List.mem_of_find?_eq_some hf)
    simp at h3
    have hkj := hn k j _ _ h hj h3.symm
    subst hkj
    rw [h] at hj
    cases hj
    rfl
theorem hget_none {hs : HS} {a : Nat} (h : ∀ (k : Nat) (q : Nat × CE), hs[k]? = some q → q.1 ≠ a) : hget hs a = none := by
  unfold hget
  rw [List.find?_eq_none.mpr]
  · rfl
  · intro q hq
    obtain ⟨k, hk⟩ := List.getElem?_of_mem hq
    simpa using h k q hk
theorem hget_set {hs : HS} (hn : hnd hs) {k a : Nat} {e e' : CE} (h : hs[k]? = some (a, e)) : hnd (hs.set k (a, e')) ∧ hget (hs.set k (a, e')) = hup (hget hs) a e' := by
  have hlt : k < hs.length := (List.getElem?_eq_some_iff.mp h).1
  have hn' : hnd (hs.set k (a, e')) := by
    intro i j p q hi hj hpq
    rw [List.getElem?_set] at hi hj
    by_cases hik : k = i
    · by_cases hjk : k = j
      · rw [← hik, ← hjk]
      · rw [if_pos hik, if_pos hlt] at hi
        rw [if_neg hjk] at hj
        cases hi
        subst hik
        exact hn _ _ _ _ h hj hpq
    · rw [if_neg hik] at hi
      by_cases hjk : k = j
      · rw [if_pos hjk, if_pos hlt] at hj
        cases hj
        subst hjk
        exact hn _ _ _ _ hi h hpq
      · rw [if_neg hjk] at hj
        exact hn _ _ _ _ hi hj hpq
  refine ⟨hn', ?_⟩
  funext b
  unfold hup
  by_cases hb : b = a
  · rw [if_pos hb, hb]
    exact hget_of hn' (k := k) (by rw [List.getElem?_set, if_pos rfl, if_pos hlt])
  · rw [if_neg hb]
    cases hg : hget hs b with
    | none =>
      refine hget_none fun j q hj hq => ?_
      rw [List.getElem?_set] at hj
      by_cases hjk : k = j
      · rw [if_pos hjk, if_pos hlt] at hj
        cases hj
        exact hb hq.symm
      · rw [if_neg hjk] at hj
        have h9 := hget_of hn (k := j) (a := q.1) (e := q.2) hj
        rw [hq, hg] at h9
        cases h9
    | some e2 =>
      obtain ⟨j, hj⟩ := hget_at hg
      have hjk : k ≠ j := fun z => by subst z; rw [h] at hj; cases hj; exact hb rfl
      exact hget_of hn' (k := j) (by rw [List.getElem?_set, if_neg hjk]; exact hj)
theorem hget_push {hs : HS} {a : Nat} {e : CE} (hn : hnd (hs ++ [(a, e)])) : hget (hs ++ [(a, e)]) = hup (hget hs) a e := by
  have hn0 : hnd hs := by
    intro i j p q hi hj
    refine hn i j p q ?_ ?_
    · rw [List.getElem?_append_left (List.getElem?_eq_some_iff.mp hi).1]; exact hi
    · rw [List.getElem?_append_left (List.getElem?_eq_some_iff.mp hj).1]; exact hj
  have hlast : (hs ++ [(a, e)])[hs.length]? = some (a, e) := by simp
  funext b
  unfold hup
  by_cases hb : b = a
  · rw [if_pos hb, hb]
    exact hget_of hn hlast
  · rw [if_neg hb]
    cases hg : hget hs b with
    | none =>
      refine hget_none fun j q hj hq => ?_
      rcases Nat.lt_or_ge j hs.length with z | z
      · rw [List.getElem?_append_left z] at hj
        have h9 := hget_of hn0 (k := j) (a := q.1) (e := q.2) hj
        rw [hq, hg] at h9
        cases h9
      · rw [List.getElem?_append_right z] at hj
        cases hz : j - hs.length with
        | zero => rw [hz] at hj; simp at hj; subst hj; exact hb hq.symm
        | succ n => rw [hz] at hj; simp at hj
    | some e2 =>
      obtain ⟨j, hj⟩ := hget_at hg
      exact hget_of hn (k := j) (by rw [List.getElem?_append_left (List.getElem?_eq_some_iff.mp hj).1]; exact hj)
theorem cvS_set {cA : Nat → ClassId} {hs : HS} {k a : Nat} {e : CE} : (cvS cA hs).set k (a, cvE cA e) = cvS cA (hs.set k (a, e)) := by
  simp [cvS, List.map_set]
theorem cvS_push {cA : Nat → ClassId} {hs : HS} {a : Nat} {e : CE} : cvS cA hs ++ [(a, cvE cA e)] = cvS cA (hs ++ [(a, e)]) := by
  simp [cvS]
-- words that hold everywhere
def isWarm (w : Cond) : Bool := match w with
  | .fieldLinkNest _ _ _ _ _ _ => true
  | .methodLinkNest _ _ _ _ => true
  | .declares _ => true
  | .castable _ _ => true
  | _ => false
theorem isWarm_warm {w : Cond} (hw : isWarm w = true) {s U : State} (hW : s.WarmedH U.vm) (h : va_Nw w s) : va_Nw w U := by
  cases w <;> first | exact va_Nw.warmF hW h | exact va_Nw.warmM hW h | exact va_Nw.warmD hW h | exact va_Nw.warmC hW h | cases hw
theorem isWarm_tabs {w : Cond} (hw : isWarm w = true) : w.onTables = true := by
  cases w <;> first | cases hw; done | rfl
/-- a method: name, code, locals, what it returns, room, 0 for an instance's, 1 static, 2 a constructor, parameters -/
abbrev MT : Type := MethodName × ByteArray × Nat × Option FieldType × Room × Nat × Nat
abbrev mN (M : MT) : MethodName := M.1
abbrev mB (M : MT) : ByteArray := M.2.1
abbrev mL (M : MT) : Nat := M.2.2.1
abbrev mRt (M : MT) : Option FieldType := M.2.2.2.1
abbrev mRm (M : MT) : Room := M.2.2.2.2.1
abbrev mKd (M : MT) : Nat := M.2.2.2.2.2.1
abbrev mNp (M : MT) : Nat := M.2.2.2.2.2.2
def BIG : List Cond := lw_tbl.filter goodWord
def mWs (M : MT) : List Cond := Cond.code (mN M) (mB M) (mL M) (mRt M) :: BIG
def callW (M : MT) : List Cond := if mKd M = 0 then [Cond.instanceMethod (mN M), Cond.selects (mN M).cls (mN M) (mN M), Cond.initialized (mN M).cls, Cond.code (mN M) (mB M) (mL M) (mRt M)] else if mKd M = 1 then [Cond.static (mN M), Cond.initialized (mN M).cls, Cond.code (mN M) (mB M) (mL M) (mRt M)] else [Cond.instanceMethod (mN M), Cond.initialized (mN M).cls, Cond.code (mN M) (mB M) (mL M) (mRt M)]
def wok (M : MT) : Prop := (∀ w ∈ callW M, w ∈ BIG) ∧ (parseMethodDescriptor (mN M).desc).map (fun d => d.parameters.length) = some (mNp M) ∧ (mN M).cls ≠ "java/lang/invoke/MethodHandle" ∧ (mN M).cls ≠ "java/lang/invoke/VarHandle"
theorem big_good {w : Cond} (h : w ∈ BIG) : (w.onTables && w.keeps) = true ∨ ∃ ty, w = .arrayClass ty := good_of_word (List.mem_filter.mp h).2
theorem big_in {w : Cond} (h : w ∈ lw_tbl) (g : goodWord w = true) : w ∈ BIG := List.mem_filter.mpr ⟨h, g⟩
-- what a state knows
/-- throwables that a row of a table lets pass -/
def ncL : List (String × String) := []
theorem ncMoved {C T : String} {u U : State} (hvm : u.vm.Alike U.vm) (h : va_Nc C T u) : va_Nc C T U := by
  obtain ⟨c, t, h1, h2, h3⟩ := h
  exact ⟨c, t, by rw [hvm.findClass]; exact h1, by rw [hvm.findClass]; exact h2, by rw [hvm.assignable]; exact h3⟩
def KS (D : va_G) (cA : Nat → ClassId) (U : State) : Prop :=
  va_K D vwCl (tysL cA) U ∧ (∀ w ∈ lw_tbl, isWarm w = true → va_Nw w U) ∧ (∀ own k tx, Cond.stringRef own k tx ∈ lw_tbl → ∃ a, vk_R own k tx a U) ∧ (∀ C, Cond.arrayOver (.object C) ∈ lw_tbl → va_AO C U) ∧ ∀ q ∈ ncL, va_Nc q.1 q.2 U
theorem KS.warm {D : va_G} {cA : Nat → ClassId} {s U : State} (hW : s.WarmedH U.vm) (h : KS D cA s) : KS D cA U :=
  ⟨va_K.moved hW.alike h.1, fun w hw g => isWarm_warm g hW (h.2.1 w hw g), fun o k t ht => by obtain ⟨a, ha⟩ := h.2.2.1 o k t ht; exact ⟨a, ha.warm hW⟩, fun C hC => (h.2.2.2.1 C hC).moved hW.alike, fun q hq => ncMoved hW.alike (h.2.2.2.2 q hq)⟩
theorem KS.same {D : va_G} {cA : Nat → ClassId} {s U : State} (hv : s.vm = U.vm) (h : KS D cA s) : KS D cA U :=
  ⟨va_K.moved (by rw [← hv]; exact Vm.Alike.refl _) h.1, fun w hw g => va_Nw.same (isWarm_tabs g) hv (h.2.1 w hw g), fun o k t ht => by obtain ⟨a, ha⟩ := h.2.2.1 o k t ht; exact ⟨a, ha.same hv.symm⟩, fun C hC => (h.2.2.2.1 C hC).moved (by rw [← hv]; exact Vm.Alike.refl _), fun q hq => ncMoved (by rw [← hv]; exact Vm.Alike.refl _) (h.2.2.2.2 q hq)⟩
def ST (A : Nat → Prop) (U : State) (H : Heap) : Prop := vx_Zq Bundle.tN "UNASSIGNED_STACK" Bundle.steD A U H ∧ vx_Zq Bundle.tN "SUPPRESSED_SENTINEL" Bundle.listD A U H
theorem ST.moved {A : Nat → Prop} {u U : State} {H : Heap} (hvm : u.vm.Alike U.vm) (h : ST A u H) : ST A U H := ⟨h.1.moved hvm, h.2.moved hvm⟩
theorem ST.kept {A : Nat → Prop} {U : State} {H H1 : Heap} (h : ST A U H) (hq : ∀ a : Nat, a < H.size → ¬ A a → H1[a]? = H[a]?) : ST A U H1 := ⟨h.1.kept hq, h.2.kept hq⟩
theorem ST.narrow {A B : Nat → Prop} {U : State} {H : Heap} (h : ST A U H) (hAB : ∀ q, B q → A q) : ST B U H := ⟨h.1.narrow hAB, h.2.narrow hAB⟩
-- a call's start and its ends
abbrev OUT : Type := Option Value ⊕ String
abbrev PST : Type := OUT → HP → Nat → Prop
def Pcm (D : va_G) (cA : Nat → ClassId) (args : List Value) (hs : HS) (sz : Nat) : Array Value → State → Prop :=
  va_Pc args (fun U => U.heap.size = sz ∧ va_P D vwCl (cvS cA hs) U.heap ∧ va_D (fun _ => True) (cvS cA hs) ∧ KS D cA U ∧ ST (va_A (cvS cA hs) sz) U U.heap)
def Qcm (D : va_G) (cA : Nat → ClassId) (A : Nat → Prop) (Q : PST) : Array Value → State → Outcome → State → Prop := fun _ st o t =>
  (∃ (v : Option Value) (hs' : HS), o = .returned v ∧ Q (.inl v) (hget hs') t.heap.size ∧ va_P D vwCl (cvS cA hs') t.heap ∧ va_D A (cvS cA hs')) ∧ va_F A st t
def Xcm (D : va_G) (cA : Nat → ClassId) (A : Nat → Prop) (Q : PST) : String → State → State → Prop := fun E st t =>
  (∃ hs' : HS, Q (.inr E) (hget hs') t.heap.size ∧ va_P D vwCl (cvS cA hs') t.heap ∧ va_D A (cvS cA hs')) ∧ va_F A st t
theorem Pcm_blind {D : va_G} {cA : Nat → ClassId} {args : List Value} {hs : HS} {sz : Nat} : FrameBlind (Pcm D cA args hs sz) := by
  intro a U g mk h
  obtain ⟨h1, h2, h3, h4, h5, h6⟩ := h
  exact ⟨h1, h2, h3, h4, KS.same (s := U) (U := U.calling g mk a) rfl h5, ST.moved (u := U) (U := U.calling g mk a) (Vm.Alike.refl U.vm) h6⟩
/-- a method's contract in one world: it ends so that Q holds -/
def MM (l : Launch) (M : MT) (args : List Value) (h : HP) (sz : Nat) (Q : PST) : Prop :=
  wok M ∧ ∀ (D : va_G) (cA : Nat → ClassId) (hs : HS), h = hget hs → vx_Met l (mN M) (mWs M) (mRm M) (Pcm D cA args hs sz) (Qcm D cA (va_A (cvS cA hs) sz) Q) (Xcm D cA (va_A (cvS cA hs) sz) Q) (mRm M).cells (mRm M).slots (va_A (cvS cA hs) sz)
-- a body
abbrev SCR : Type := Option (Nat × Nat × (Nat → Int32)) × Option (List (Nat × Nat × Nat × Nat))
def XOK (X : SCR) (A : Nat → Prop) (s : State) : Prop := ∀ b L xs, X.1 = some (b, L, xs) → va_X b L xs s s.heap ∧ b < s.heap.size ∧ ¬ A b
def TBL (X : SCR) (c : Code) : Prop := ∀ hh, X.2 = some hh → c.exceptionTable.toList = tableOf hh
def Cx (l : Launch) (X : SCR) (M : MT) (p : Program) (s : State) (m : MethodId) (args : Array Value) (meth : Method) (c : Code) (D : va_G) (cA : Nat → ClassId) (A : Nat → Prop) : Prop :=
  p.tables.exec = Jvm.exec ∧ c.code = mB M ∧ c.maxLocals = mL M ∧ meth.sig.returnType = mRt M ∧ s.vm.findClass (mN M).cls = some m.cls ∧ (∀ w ∈ BIG, w.before args s = true) ∧ meth.locks = false ∧ ((mN M).name = "<init>" → meth.name = "<init>") ∧ TBL X c ∧ KS D cA s ∧ ST A s s.heap ∧ (∀ q : Nat, s.heap.size ≤ q → A q) ∧ XOK X A s
def SP (l : Launch) (X : SCR) (M : MT) (pc : Nat) (lv : List (Nat × Value)) (st : List Value) (h : HP) (sz bc bs : Nat) (Q : PST) : Prop :=
  ∀ (p : Program) (e : Env) (s : State) (m : MethodId) (args : Array Value) (below : List Frame) (meth : Method) (c : Code) (D : va_G) (cA : Nat → ClassId) (A : Nat → Prop) (H : Heap) (locs : List Loc) (cells slots : Nat) (ls : Array Slot) (hs : HS),
    Cx l X M p s m args meth c D cA A → h = hget hs → va_P D vwCl (cvS cA hs) H → va_D A (cvS cA hs) → va_S A s.heap H locs → H.size = sz → lv_has ls (mL M) lv → cells + bc ≤ (mRm M).cells → slots + bs ≤ (mRm M).slots →
    W p l e (mRm M) s m args below meth c H locs cells slots (vx_MQ below (Qcm D cA A Q) (Xcm D cA A Q) args s (mRm M).cells (mRm M).slots A) (F0 m pc ls st)
theorem va_A_D {cA : Nat → ClassId} {hs : HS} {sz : Nat} (h : va_D (fun _ => True) (cvS cA hs)) : va_D (va_A (cvS cA hs) sz) (cvS cA hs) := h.self
theorem MM_of {l : Launch} {M : MT} (hw : wok M) (hp : plainName (mN M).cls = true) {args : List Value} {h : HP} {sz : Nat} {Q : PST} (hlen : (lg_sl args).length ≤ mL M)
    (k : SP l (none, some []) M 0 (lv_args 0 args) [] h sz (mRm M).cells (mRm M).slots Q) : MM l M args h sz Q := by
  refine ⟨hw, fun D cA hs hh => ?_⟩
  refine vx_ofW (cc := mB M) (maxL := mL M) (ret := mRt M) hp rfl ?_
  intro p e s m as below meth c s₁ B hml ht hv
  obtain ⟨rfl, hsz, hP, hD0, hK, hT⟩ := hv
  have hts := atoms_spec (ws := mWs M) B.pre
  have hD := va_A_D (sz := sz) hD0
  have hl := lv_entry args (n := mL M) hlen
  rw [lg_entry_eq]
  refine k p e s m _ below meth c D cA _ s.heap [] 0 0 _ hs ⟨B.exec, B.bytes, hml, B.returns, findClass_of_methodNamed B.named, fun w hw => hts w (List.mem_cons_of_mem _ hw), B.notSynchronized, fun hi => (name_of_methodNamed B.named B.method).1.trans hi, ?_, hK, ?_, ?_, ?_⟩ hh hP hD va_S.rf hsz hl (by omega) (by omega)
  · intro hh hx
    cases hx
    cases htt : c.exceptionTable.toList with
    | nil => rfl
    | cons x r => exact (ht x (by rw [htt]; exact List.mem_cons_self)).elim
  · exact hT
  · intro q hq
    exact Or.inr (by omega)
  · intro b L xs hX
    cases hX
