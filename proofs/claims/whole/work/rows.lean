section
/-! ===== BEGIN words of one list among another's, by their places ===== -/
theorem goodIn_r {big : List Cond} (ws : List Cond) (ps : List Nat) (hp : ws = ps.filterMap (fun i => big[i]?)) (h : ws.all goodWord = true) : GoodIn big ws := by
  intro w hw
  have h1 := List.all_eq_true.mp h w hw
  rw [hp] at hw
  obtain ⟨i, -, hi⟩ := List.mem_filterMap.mp hw
  have hm : w ∈ big := by first | exact List.mem_of_getElem? hi | exact List.getElem?_mem hi
  exact ⟨hm, good_of_word h1⟩
theorem goodIn_app {big a b : List Cond} (ha : GoodIn big a) (hb : GoodIn big b) : GoodIn big (a ++ b) := fun w h => (List.mem_append.mp h).elim (ha w) (hb w)
theorem goodIn_ca {big a b : List Cond} {c : Cond} (ha : GoodIn big (c :: a)) (hb : GoodIn big b) : GoodIn big (c :: (a ++ b)) := fun w h => (List.mem_cons.mp h).elim (fun e => ha w (List.mem_cons.mpr (Or.inl e))) (fun h => (List.mem_append.mp h).elim (fun h => ha w (List.mem_cons.mpr (Or.inr h))) (hb w))
theorem goodIn_sub {big ws : List Cond} (hm : ∀ w ∈ ws, w ∈ big) (h : ws.all goodWord = true) : GoodIn big ws := fun w hw => ⟨hm w hw, good_of_word (List.all_eq_true.mp h w hw)⟩
/-! ===== END ===== -/
/-! ===== BEGIN exceptions that leave a method, and their catching by the caller (launches without stack traces) ===== -/
section VXA
/-! The laws vx_back, vx_callV, vx_callS, vx_callSW, vx_throw0, vx_throwS follow proofs of the library, with one case more: JvmDerived/Free/Laws.lean (Back.of_free), Shelf42/LK1.lean (callV, callS), Shelf/KitTraced.lean (throwNew0V, throwNewS). -/
/-- where a method has thrown q: the class by its name, the cell, what was written, the world -/
def vx_T (XC : String → State → State → Prop) (st : State) (q : Addr) (t : State) (mc ms : Nat) (free : Addr → Prop) : Prop :=
  ∃ (E : String) (ce : Cell) (L : List Loc), XC E st t ∧ t.heap[q]? = some ce ∧ ce.vm = .none ∧ st.vm.findClass E = some ce.cls ∧ st.WarmedH t.vm ∧ st.sameButNew ({ t with vm := st.vm } : State) L mc ms ∧ ∀ z ∈ L, free z.base
def vx_Q (Qc : Array Value → State → Outcome → State → Prop) (XC : String → State → State → Prop) (mc ms : Nat) (free : Addr → Prop) : Array Value → State → Outcome → State → Prop := fun a st o t =>
  (Qc a st o t ∧ ∃ L, FrameEnd st o t L mc ms ∧ ∀ q ∈ L, free q.base) ∨ ∃ q, o = .threw q ∧ vx_T XC st q t mc ms free
/-- a callee that returns or throws -/
def vx_Met (l : Launch) (y : MethodName) (ws : List Cond) (rm : Room) (Pc : Array Value → State → Prop) (Qc : Array Value → State → Outcome → State → Prop) (XC : String → State → State → Prop) (mc ms : Nat) (free : Addr → Prop) : Prop :=
  MetFree l y (headSpec ws rm) Pc (fun _ _ _ _ _ => True) (vx_Q Qc XC mc ms free)
def vx_Post (XC : String → State → State → Prop) (mc ms : Nat) (free : Addr → Prop) : Pt → Array Value → Addr → Pt → Prop := fun A a q B =>
  ∃ (g : JFrame) (mk : MethodId) (t : State) (L : List Loc) (E : String) (ce : Cell), B.U.heap = t.heap ∧ B.U.vm = t.vm ∧ XC E (A.U.calling g mk a) t ∧ t.heap[q]? = some ce ∧ ce.vm = .none ∧ A.U.vm.findClass E = some ce.cls ∧ B.locs = A.locs ++ L ∧ (∀ z ∈ L, free z.base) ∧ B.cells = A.cells + mc ∧ B.slots = A.slots + ms
def vx_Back (l : Launch) (R : Room) (p : Program) (e : Env) (below : List Frame) (s : State) (sargs : Array Value) (y : MethodName) (len W9 : Nat)
    (Pre : Pt → Array Value → Prop) (Post : Pt → Array Value → Option Value → Pt → Prop) (PostX : Pt → Array Value → Addr → Pt → Prop) : Prop :=
  ∀ (m : MethodId) (meth : Method) (c : Code) (A : Pt) (g : JFrame) (ig : Instr) (mk : MethodId) (a : Array Value),
    Stand p l e R s m sargs below meth c A.U A.locs A.cells A.slots → g.method = m → g.locals.size = c.maxLocals → decode c.code g.pc = .ok (ig, len) →
    2 * g.monitorRoom + (g.stack.map fun v => v.category).sum ≤ W9 → A.U.methodNamed? y = some mk → Pre A a →
    (∃ (v : Option Value) (B : Pt), Stand p l e R s m sargs below meth c B.U B.locs B.cells B.slots ∧ Post A a v B ∧
      Steps p.tables e below (doInvoke e (A.U.setTop g) [] mk a).1 (B.U.setTop { g with pc := g.pc + len, stack := v.toList ++ g.stack })) ∨
    (∃ (q : Addr) (B : Pt), Stand p l e R s m sargs below meth c B.U B.locs B.cells B.slots ∧ PostX A a q B ∧
      Steps p.tables e below (doInvoke e (A.U.setTop g) [] mk a).1 ((B.U.setTop g).pushFrame (.throwing q)))
section Payer
variable {l : Launch} {R : Room} {p : Program} {e : Env} {below : List Frame} {s : State} {sargs : Array Value} {y : MethodName} {len W9 : Nat}
theorem vx_back {ws : List Cond} {rm : Room} {Pc : Array Value → State → Prop} {Qc : Array Value → State → Outcome → State → Prop} {XC : String → State → State → Prop} {mc ms : Nat} {free : Addr → Prop} {bytes : ByteArray} {maxL : Nat} {ret : Option FieldType}
    (hM : vx_Met l y ws rm Pc Qc XC mc ms free) (hblind : FrameBlind Pc) (hrc : rm.cells = mc) (hrs : rm.slots = ms)
    (hframes : rm.frames + 1 ≤ R.frames) (hlocals : W9 + (maxL + 11) + rm.locals ≤ R.locals)
    (hws : ∀ w ∈ ws, ∀ a' U, s.WarmedH U.vm → w.before a' U = true) (hcode : Cond.code y bytes maxL ret ∈ ws) (hinit : ∀ a' U, s.WarmedH U.vm → (Cond.initialized y.cls).before a' U = true) :
    vx_Back l R p e below s sargs y len W9 (PreOf R mc ms Pc) (PostOf Qc mc ms free) (vx_Post XC mc ms free) := by
  intro m meth c A g ig mk a X hg hsize hdg hW hn hp
  have h1 : (headSpec ws rm).pre.before a A.U = true := atoms_intro fun w hw => hws w hw _ _ X.warmed
  have h2 : (Cond.code y bytes maxL ret).before a A.U = true := hws _ hcode _ _ X.warmed
  have h3 : (Cond.initialized y.cls).before a A.U = true := hinit _ _ X.warmed
  have h4 : A.cells + (headSpec ws rm).room.cells ≤ R.cells := by rw [show (headSpec ws rm).room.cells = mc from hrc]; exact hp.1
  have h5 : A.slots + (headSpec ws rm).room.slots ≤ R.slots := by rw [show (headSpec ws rm).room.slots = ms from hrs]; exact hp.2.1
  have hPc : Pc a (A.U.calling g mk a) := hblind _ _ _ _ hp.2.2
  obtain ⟨U, Ls, c0, s0⟩ := A
  dsimp only [Pt.U, Pt.locs, Pt.cells, Pt.slots] at h1 h2 h3 h4 h5 X hn hPc ⊢
  obtain ⟨methY, cY, hmY, hcY, -, hlY, -, -, -, -⟩ := Cond.code_spec hn h2
  obtain ⟨kY, hkY, -⟩ := className_of_methodNamed hn
  have hinitY : kY.init = .initialized := Cond.initialized_spec (findClass_of_methodNamed hn) hkY h3
  have h : At U g.method c below := by rw [hg]; exact X.here
  have hlocals9 : W9 + (maxL + 11) + (headSpec ws rm).room.locals ≤ R.locals := hlocals
  have happ : (headSpec ws rm).appliesLoose y e.platform (U.calling g mk a) = true :=
    Spec.appliesLoose_calling (g := g) h hdg hn hkY hinitY
      (X.room_calling (g := g) (R' := (headSpec ws rm).room) hsize hmY hcY hframes (by rw [hlY]; omega) h4 h5) h1
  obtain ⟨mid, hmid⟩ := h.above
  have hfr : (U.setTop g).frames = (.java g :: mid) ++ below := by rw [State.frames_setTop' g h.top, hmid]; rfl
  obtain ⟨o, s₂, hsteps, -, hend, hq⟩ := Steps.callFree hM p X.admits X.cas X.clock (acts := []) hfr happ hPc trivial
  have hq' : vx_Q Qc XC mc ms free a (U.calling g mk a) o s₂ := hq
  rw [State.frames_setTop' g h.top] at hend
  obtain ⟨g₀, hg0⟩ := Option.isSome_iff_exists.mp h.top
  obtain ⟨r, hr⟩ := State.topJava?_eq_some.mp hg0
  have hr' : (({ U with heap := s₂.heap, slotsUsed := s₂.slotsUsed } : State).setVm s₂.vm).frames = .java g₀ :: r := hr
  rcases hq' with ⟨hqc, L, hfe, hL⟩ | ⟨q, rfl, E, ce, L, hx, hce, hcv, hcl, hW₂, hsm, hL⟩
  · obtain ⟨⟨v, rfl⟩, hW₂, e2, q2, q3, q4, q5, q6⟩ := id hfe
    have e3 : s₂ = ({ (U.calling g mk a).setFrames s₂.frames with heap := s₂.heap, slotsUsed := s₂.slotsUsed } : State).setVm s₂.vm := by
      have : s₂ = ({ s₂ with vm := (U.calling g mk a).vm } : State).setVm s₂.vm := rfl
      rw [e2] at this
      exact this
    obtain ⟨c₂, i₂, len₂, hc₂, hd₂, hf₂⟩ := hend
    have hW' : U.WarmedH s₂.vm := hW₂
    have hcc : c₂ = c := by
      have h1 : s₂.code? g.method = U.code? g.method := by
        rw [State.code?_eq, State.code?_eq, hW'.alike.method?]
      exact Option.some.inj (hc₂.symm.trans (h1.trans h.code))
    subst hcc
    have hlen : len₂ = len := by rw [hdg] at hd₂; cases hd₂; rfl
    subst hlen
    have hs₂ : s₂ = (({ U with heap := s₂.heap, slotsUsed := s₂.slotsUsed } : State).setVm s₂.vm).setTop { g with pc := g.pc + len₂, stack := v.toList ++ g.stack } := by
      refine e3.trans ?_
      rw [hf₂, State.calling_eq h.top, State.setFrames_setFrames, State.setTop_of_frames _ hr', hr]
      rfl
    have hsame : U.sameButNew ({ U with heap := s₂.heap, slotsUsed := s₂.slotsUsed } : State) L mc ms := by
      refine ⟨?_, q2, q3, q4, q5, q6⟩
      obtain ⟨t, ht, -⟩ := State.frames_cons hr
      show ({ U with heap := s₂.heap, slotsUsed := s₂.slotsUsed } : State) = { U.setFrames U.frames with heap := s₂.heap, slotsUsed := s₂.slotsUsed }
      rw [State.setFrames_self ht]
    subst hg
    refine Or.inl ⟨v, ⟨(({ U with heap := s₂.heap, slotsUsed := s₂.slotsUsed } : State).setVm s₂.vm), Ls ++ L, c0 + mc, s0 + ms⟩,
      ⟨X.admits, X.cas, X.clock, X.frames, X.room, X.hears, X.method, X.code, (X.here.setHeapUsed s₂.heap s₂.slotsUsed).setVm hW'.alike, X.tail, State.WarmedH.trans X.warmed hW', X.limits, X.bytes, X.same.trans (hsame.setVm s.vm)⟩,
      ⟨g, mk, s₂, L, rfl, rfl, hqc, rfl, hL, rfl, rfl⟩, ?_⟩
    show Steps p.tables e below _ ((({ U with heap := s₂.heap, slotsUsed := s₂.slotsUsed } : State).setVm s₂.vm).setTop { g with pc := g.pc + len₂, stack := v.toList ++ g.stack })
    rw [← hs₂]
    exact hsteps
  · obtain ⟨e2, q2, q3, q4, q5, q6⟩ := id hsm
    have e3 : s₂ = ({ (U.calling g mk a).setFrames s₂.frames with heap := s₂.heap, slotsUsed := s₂.slotsUsed } : State).setVm s₂.vm := by
      have : s₂ = ({ s₂ with vm := (U.calling g mk a).vm } : State).setVm s₂.vm := rfl
      rw [e2] at this
      exact this
    have hf₂ : s₂.frames = .throwing q :: .java g :: U.frames.tail := hend
    have hW' : U.WarmedH s₂.vm := hW₂
    have hs₂ : s₂ = ((({ U with heap := s₂.heap, slotsUsed := s₂.slotsUsed } : State).setVm s₂.vm).setTop g).pushFrame (.throwing q) := by
      refine e3.trans ?_
      rw [hf₂, State.calling_eq h.top, State.setFrames_setFrames, State.pushFrame, State.frames_setTop _ hr', State.setTop_of_frames _ hr', State.setFrames_setFrames, hr]
      rfl
    have hsame : U.sameButNew ({ U with heap := s₂.heap, slotsUsed := s₂.slotsUsed } : State) L mc ms := by
      refine ⟨?_, q2, q3, q4, q5, q6⟩
      obtain ⟨t, ht, -⟩ := State.frames_cons hr
      show ({ U with heap := s₂.heap, slotsUsed := s₂.slotsUsed } : State) = { U.setFrames U.frames with heap := s₂.heap, slotsUsed := s₂.slotsUsed }
      rw [State.setFrames_self ht]
    subst hg
    refine Or.inr ⟨q, ⟨(({ U with heap := s₂.heap, slotsUsed := s₂.slotsUsed } : State).setVm s₂.vm), Ls ++ L, c0 + mc, s0 + ms⟩,
      ⟨X.admits, X.cas, X.clock, X.frames, X.room, X.hears, X.method, X.code, (X.here.setHeapUsed s₂.heap s₂.slotsUsed).setVm hW'.alike, X.tail, State.WarmedH.trans X.warmed hW', X.limits, X.bytes, X.same.trans (hsame.setVm s.vm)⟩,
      ⟨g, mk, s₂, L, E, ce, rfl, rfl, hx, hce, hcv, hcl, rfl, hL, rfl, rfl⟩, ?_⟩
    show Steps p.tables e below _ (((({ U with heap := s₂.heap, slotsUsed := s₂.slotsUsed } : State).setVm s₂.vm).setTop g).pushFrame (.throwing q))
    rw [← hs₂]
    exact hsteps
end Payer
section Calls
variable {p : Program} {l : Launch} {e : Env} {R : Room} {s : State} {m : MethodId} {args : Array Value} {below : List Frame} {meth : Method} {c : Code} {T : State} {locs : List Loc} {cells slots : Nat}
theorem vx_callV (X : Stand p l e R s m args below meth c T locs cells slots) (hexec : p.tables.exec = Jvm.exec) {own C : String} {index : Nat} {y : MethodName} {bytes : ByteArray} {maxL : Nat} {ret : Option FieldType}
    (hown : s.vm.findClass own = some m.cls) (hlink : (Cond.methodLink own index y).before args s = true) (hinst : (Cond.instanceMethod y).before args s = true) (hsel : (Cond.selects C y y).before args s = true)
    (hcode : (Cond.code y bytes maxL ret).before args s = true) (hy : y.cls ≠ "java/lang/invoke/MethodHandle" ∧ y.cls ≠ "java/lang/invoke/VarHandle")
    {W9 : Nat} {Pre : Pt → Array Value → Prop} {Post : Pt → Array Value → Option Value → Pt → Prop} {PostX : Pt → Array Value → Addr → Pt → Prop} (hK : vx_Back l R p e below s args y 3 W9 Pre Post PostX)
    {b : Addr} {cellB : Cell} (hcell : T.heap[b]? = some cellB) (hobj : cellB.vm.isStatics = false) (hcls : s.vm.findClass C = some cellB.cls)
    {g : JFrame} (hg : g.method = m) (hsize : g.locals.size = c.maxLocals) {argsL rest : List Value} (hlen : ∀ sig, parseMethodDescriptor y.desc = some sig → argsL.length = sig.parameters.length)
    (hstack : g.stack = argsL.reverse ++ .ref b :: rest) (hW : 2 * g.monitorRoom + (rest.map fun v => v.category).sum ≤ W9) (hdg : decode c.code g.pc = .ok (.invokevirtual index, 3))
    (hpre : ∀ vm₁, s.WarmedH vm₁ → Pre ⟨T.setVm vm₁, locs, cells, slots⟩ (Value.ref b :: argsL).toArray) :
    (∃ (v : Option Value) (vm₁ : Vm) (B : Pt), s.WarmedH vm₁ ∧ Stand p l e R s m args below meth c B.U B.locs B.cells B.slots ∧ Post ⟨T.setVm vm₁, locs, cells, slots⟩ (Value.ref b :: argsL).toArray v B ∧
      ∀ target, Steps p.tables e below (B.U.setTop { g with pc := g.pc + 3, stack := v.toList ++ rest }) target → Steps p.tables e below (T.setTop g) target) ∨
    (∃ (q : Addr) (vm₁ : Vm) (B : Pt), s.WarmedH vm₁ ∧ Stand p l e R s m args below meth c B.U B.locs B.cells B.slots ∧ PostX ⟨T.setVm vm₁, locs, cells, slots⟩ (Value.ref b :: argsL).toArray q B ∧
      Steps p.tables e below (T.setTop g) ((B.U.setTop { g with stack := rest }).pushFrame (.throwing q))) := by
  obtain ⟨mk, methM, hnamed, hmethM, hstM, habM⟩ := Cond.instanceMethod_spec hinst
  obtain ⟨methM', cM, hmethM', -, -, -, -, -, -, hsigM⟩ := Cond.code_spec hnamed hcode
  cases hmethM.symm.trans hmethM'
  obtain ⟨c2, r2, m2, q1, q2, q3, q4, kP, hkP, hkPi⟩ := Cond.selects_spec hsel
  cases hcls.symm.trans q1
  cases (State.methodFound?_of_named hnamed hy).symm.trans q2
  cases hnamed.symm.trans q3
  have hselP : selectMethod e.platform s.vm cellB.cls mk = .method mk := by rw [Launch.admits_selectMethod X.admits]; exact q4
  obtain ⟨vm₁, X₁, hstep₁⟩ := X.invokevirtual hexec hown hlink hnamed hmethM hstM hkP hkPi hy (a := b) (cell := cellB) hcell
    (fun z h => by rw [h] at hobj; cases hobj) hselP hmethM habM hkP hkPi (g := g) hg (argsL := argsL) (rest := rest) (hlen _ hsigM) hstack hdg
  rcases hK m meth c ⟨T.setVm vm₁, locs, cells, slots⟩ { g with stack := rest } (.invokevirtual index) mk (Value.ref b :: argsL).toArray X₁ hg hsize hdg hW (X₁.named hnamed) (hpre vm₁ X₁.warmed) with ⟨v, B, X', hpost, hsteps⟩ | ⟨q, B, X', hpost, hsteps⟩
  · exact Or.inl ⟨v, vm₁, B, X₁.warmed, X', hpost, fun target h => hstep₁ _ fun acts => by rw [doInvoke_state]; exact hsteps.trans h⟩
  · exact Or.inr ⟨q, vm₁, B, X₁.warmed, X', hpost, hstep₁ _ fun acts => by rw [doInvoke_state]; exact hsteps⟩
theorem vx_callS (X : Stand p l e R s m args below meth c T locs cells slots) (hexec : p.tables.exec = Jvm.exec) {own : String} {index : Nat} {y : MethodName} {bytes : ByteArray} {maxL : Nat} {ret : Option FieldType}
    (hown : s.vm.findClass own = some m.cls) (hlink : (Cond.methodLink own index y).before args s = true) (hstat : (Cond.static y).before args s = true) (hinit : (Cond.initialized y.cls).before args s = true)
    (hcode : (Cond.code y bytes maxL ret).before args s = true) (hy : y.cls ≠ "java/lang/invoke/MethodHandle" ∧ y.cls ≠ "java/lang/invoke/VarHandle")
    {W9 : Nat} {Pre : Pt → Array Value → Prop} {Post : Pt → Array Value → Option Value → Pt → Prop} {PostX : Pt → Array Value → Addr → Pt → Prop} (hK : vx_Back l R p e below s args y 3 W9 Pre Post PostX)
    {g : JFrame} (hg : g.method = m) (hsize : g.locals.size = c.maxLocals) {argsL rest : List Value} (hlen : ∀ sig, parseMethodDescriptor y.desc = some sig → argsL.length = sig.parameters.length)
    (hstack : g.stack = argsL.reverse ++ rest) (hW : 2 * g.monitorRoom + (rest.map fun v => v.category).sum ≤ W9) (hdg : decode c.code g.pc = .ok (.invokestatic index, 3))
    (hpre : ∀ vm₁, s.WarmedH vm₁ → Pre ⟨T.setVm vm₁, locs, cells, slots⟩ argsL.toArray) :
    (∃ (v : Option Value) (vm₁ : Vm) (B : Pt), s.WarmedH vm₁ ∧ Stand p l e R s m args below meth c B.U B.locs B.cells B.slots ∧ Post ⟨T.setVm vm₁, locs, cells, slots⟩ argsL.toArray v B ∧
      ∀ target, Steps p.tables e below (B.U.setTop { g with pc := g.pc + 3, stack := v.toList ++ rest }) target → Steps p.tables e below (T.setTop g) target) ∨
    (∃ (q : Addr) (vm₁ : Vm) (B : Pt), s.WarmedH vm₁ ∧ Stand p l e R s m args below meth c B.U B.locs B.cells B.slots ∧ PostX ⟨T.setVm vm₁, locs, cells, slots⟩ argsL.toArray q B ∧
      Steps p.tables e below (T.setTop g) ((B.U.setTop { g with stack := rest }).pushFrame (.throwing q))) := by
  obtain ⟨mk, hnamed⟩ := Cond.code_named hcode
  obtain ⟨methM, cM, hmethM, -, -, -, -, -, -, hsigM⟩ := Cond.code_spec hnamed hcode
  have hstatic : methM.isStatic = true := Cond.static_spec hnamed hmethM hstat
  obtain ⟨kP, hkP, -⟩ := className_of_methodNamed hnamed
  have hinitP : kP.init = .initialized := Cond.initialized_spec (findClass_of_methodNamed hnamed) hkP hinit
  obtain ⟨vm₁, X₁, hstep₁⟩ := X.invokestatic hexec hown hlink hnamed hmethM hstatic hkP hinitP hy (g := g) hg (argsL := argsL) (rest := rest) (hlen _ hsigM) hstack hdg
  rcases hK m meth c ⟨T.setVm vm₁, locs, cells, slots⟩ { g with stack := rest } (.invokestatic index) mk argsL.toArray X₁ hg hsize hdg hW (X₁.named hnamed) (hpre vm₁ X₁.warmed) with ⟨v, B, X', hpost, hsteps⟩ | ⟨q, B, X', hpost, hsteps⟩
  · exact Or.inl ⟨v, vm₁, B, X₁.warmed, X', hpost, fun target h => hstep₁ _ fun acts => by rw [doInvoke_state]; exact hsteps.trans h⟩
  · exact Or.inr ⟨q, vm₁, B, X₁.warmed, X', hpost, hstep₁ _ fun acts => by rw [doInvoke_state]; exact hsteps⟩
end Calls
theorem vx_cls {s : State} {T : State} {vm₁ : Vm} {E : String} {k : ClassId} (hW : s.WarmedH vm₁) (h : (T.setVm vm₁).vm.findClass E = some k) : s.vm.findClass E = some k := by
  have h1 : vm₁.findClass E = some k := h
  rw [hW.alike.findClass] at h1
  exact h1
/-- the method's frame g, with q thrown over it -/
def vx_W (p : Program) (l : Launch) (e : Env) (R : Room) (s : State) (m : MethodId) (args : Array Value) (below : List Frame) (meth : Method) (c : Code) (H : Heap) (locs : List Loc) (cells slots : Nat) (Q : State → Prop) (g : JFrame) (q : Addr) : Prop :=
  ∀ T : State, T.heap = H → Stand p l e R s m args below meth c T locs cells slots → ∃ t, Steps p.tables e below ((T.setTop g).pushFrame (.throwing q)) t ∧ Q t
def vx_Run (p : Program) (l : Launch) (e : Env) (R : Room) (s : State) (m : MethodId) (args : Array Value) (below : List Frame) (meth : Method) (c : Code) (H : Heap) (locs : List Loc) (cells slots mc ms : Nat) (g : JFrame) (rest : List Value) (Qa : State → Outcome → State → Prop) (XC : String → State → State → Prop) (free : Addr → Prop) : Prop :=
  ∀ T : State, T.heap = H → Stand p l e R s m args below meth c T locs cells slots →
    (∃ (v : Option Value) (st₀ t T' : State) (L : List Loc), st₀.heap = H ∧ Stand p l e R s m args below meth c T' (locs ++ L) (cells + mc) (slots + ms) ∧ (∀ q ∈ L, free q.base) ∧ T'.heap = t.heap ∧ T'.vm = t.vm ∧ Qa st₀ (.returned v) t ∧
      Goes p e below T g T' { g with pc := g.pc + 3, stack := v.toList ++ rest }) ∨
    (∃ (q : Addr) (st₀ t T' : State) (L : List Loc) (E : String) (ce : Cell), st₀.heap = H ∧ Stand p l e R s m args below meth c T' (locs ++ L) (cells + mc) (slots + ms) ∧ (∀ z ∈ L, free z.base) ∧ T'.heap = t.heap ∧ T'.vm = t.vm ∧ XC E st₀ t ∧ t.heap[q]? = some ce ∧ ce.vm = .none ∧ s.vm.findClass E = some ce.cls ∧
      Steps p.tables e below (T.setTop g) ((T'.setTop { g with stack := rest }).pushFrame (.throwing q)))
def vx_X {S : Type} (px : S → Prop) (B : String → S → State → Prop) (A : Nat → Prop) : String → State → State → Prop := fun E st t => ∃ u : S, px u ∧ B E u t ∧ va_F A st t
section Runs
variable {p : Program} {l : Launch} {e : Env} {R : Room} {s : State} {m : MethodId} {args : Array Value} {below : List Frame} {meth : Method} {c : Code} {H : Heap} {locs : List Loc} {cells slots : Nat}
variable {y : MethodName} {bytes cc : ByteArray} {maxL nL mc ms n index : Nat} {ret : Option FieldType} {ws : List Cond} {rm : Room} {Pc : Array Value → State → Prop} {Qc : Array Value → State → Outcome → State → Prop} {XC : String → State → State → Prop} {free : Addr → Prop} {Ts : List Cond} {own C : String} {b : Addr} {As rest : List Value} {g : JFrame}
theorem vx_callBack (cb : CallB R s args own index y bytes maxL ret ws rm mc ms n) (hM : vx_Met l y ws rm Pc Qc XC mc ms free) (hbl : FrameBlind Pc) : vx_Back l R p e below s args y 3 8 (PreOf R mc ms Pc) (PostOf Qc mc ms free) (vx_Post XC mc ms free) := by
  obtain ⟨hrc, hrs, hfr, hlo, hws, hcw, -, hini, -⟩ := cb
  exact vx_back (bytes := bytes) (maxL := maxL) (ret := ret) hM hbl hrc hrs hfr hlo hws hcw (fun a' U hW => word_at hW (Or.inl (by first | rfl | simp [Cond.onTables, Cond.keeps, Cond.steady])) hini)
theorem vx_runV (S : CallFix p m c cc nL s args Ts own) (hM : vx_Met l y ws rm Pc Qc XC mc ms free) (cw : CallW R s args own C index y bytes maxL ret ws rm mc ms n) (hp : PreV s H C b Pc As)
    (hg : g.method = m) (hn : As.length = n) (hsize : g.locals.size = nL) (hstack : g.stack = As.reverse ++ .ref b :: rest) (hW : 2 * g.monitorRoom + (rest.map fun v => v.category).sum ≤ 8) (hdg : decode cc g.pc = .ok (.invokevirtual index, 3)) (hf : cells + mc ≤ R.cells ∧ slots + ms ≤ R.slots) :
    vx_Run p l e R s m args below meth c H locs cells slots mc ms g rest (Qc (Value.ref b :: As).toArray) XC free := by
  have hK : vx_Back l R p e below s args y 3 8 (PreOf R mc ms Pc) (PostOf Qc mc ms free) (vx_Post XC mc ms free) := vx_callBack cw.1 hM hp.1
  obtain ⟨⟨-, -, -, -, -, -, hcode, -, hy, hlen, hl⟩, hin, hse⟩ := cw
  obtain ⟨hx, hb, hml, ho, -⟩ := S
  obtain ⟨-, ⟨cellB, hcB, hoB, hclB⟩, hPc⟩ := hp
  intro T hT X
  rcases vx_callV X hx (C := C) (bytes := bytes) (maxL := maxL) (ret := ret) ho hl hin hse hcode hy hK (by rw [hT]; exact hcB) hoB hclB hg (hsize.trans hml.symm) (argsL := As) (rest := rest) (fun sig h => hn.trans (hlen sig h)) hstack hW (by rw [hb]; exact hdg)
    (fun vm₁ hW₁ => ⟨hf.1, hf.2, hPc (T.setVm vm₁) hT hW₁⟩) with ⟨v, vm₁, ⟨U', l2, c2, s2⟩, hW₁, X', ⟨g', mk, t, L, e1, e2, hq, h1, hL, h2, h3⟩, st⟩ | ⟨q, vm₁, ⟨U', l2, c2, s2⟩, hW₁, X', ⟨g', mk, t, L, E, ce, e1, e2, hq, hce, hcv, hcl, h1, hL, h2, h3⟩, st⟩
  · dsimp only [Pt.U, Pt.locs, Pt.cells, Pt.slots] at X' e1 e2 h1 h2 h3 st
    subst h1; subst h2; subst h3
    exact Or.inl ⟨v, (T.setVm vm₁).calling g' mk (Value.ref b :: As).toArray, t, U', L, hT, X', hL, e1, e2, hq, st⟩
  · dsimp only [Pt.U, Pt.locs, Pt.cells, Pt.slots] at X' e1 e2 h1 h2 h3 st hcl
    subst h1; subst h2; subst h3
    exact Or.inr ⟨q, (T.setVm vm₁).calling g' mk (Value.ref b :: As).toArray, t, U', L, E, ce, hT, X', hL, e1, e2, hq, hce, hcv, vx_cls hW₁ hcl, st⟩
theorem vx_runS (S : CallFix p m c cc nL s args Ts own) (hM : vx_Met l y ws rm Pc Qc XC mc ms free) (cw : CallB R s args own index y bytes maxL ret ws rm mc ms n ∧ (Cond.static y).before args s = true) (hp : PreS s H Pc As)
    (hg : g.method = m) (hn : As.length = n) (hsize : g.locals.size = nL) (hstack : g.stack = As.reverse ++ rest) (hW : 2 * g.monitorRoom + (rest.map fun v => v.category).sum ≤ 8) (hdg : decode cc g.pc = .ok (.invokestatic index, 3)) (hf : cells + mc ≤ R.cells ∧ slots + ms ≤ R.slots) :
    vx_Run p l e R s m args below meth c H locs cells slots mc ms g rest (Qc As.toArray) XC free := by
  have hK : vx_Back l R p e below s args y 3 8 (PreOf R mc ms Pc) (PostOf Qc mc ms free) (vx_Post XC mc ms free) := vx_callBack cw.1 hM hp.1
  obtain ⟨⟨-, -, -, -, -, -, hcode, hini, hy, hlen, hl⟩, hstt⟩ := cw
  obtain ⟨hx, hb, hml, ho, -⟩ := S
  intro T hT X
  rcases vx_callS X hx (bytes := bytes) (maxL := maxL) (ret := ret) ho hl hstt hini hcode hy hK hg (hsize.trans hml.symm) (argsL := As) (rest := rest) (fun sig h => hn.trans (hlen sig h)) hstack hW (by rw [hb]; exact hdg)
    (fun vm₁ hW₁ => ⟨hf.1, hf.2, hp.2 (T.setVm vm₁) hT hW₁⟩) with ⟨v, vm₁, ⟨U', l2, c2, s2⟩, hW₁, X', ⟨g', mk, t, L, e1, e2, hq, h1, hL, h2, h3⟩, st⟩ | ⟨q, vm₁, ⟨U', l2, c2, s2⟩, hW₁, X', ⟨g', mk, t, L, E, ce, e1, e2, hq, hce, hcv, hcl, h1, hL, h2, h3⟩, st⟩
  · dsimp only [Pt.U, Pt.locs, Pt.cells, Pt.slots] at X' e1 e2 h1 h2 h3 st
    subst h1; subst h2; subst h3
    exact Or.inl ⟨v, (T.setVm vm₁).calling g' mk As.toArray, t, U', L, hT, X', hL, e1, e2, hq, st⟩
  · dsimp only [Pt.U, Pt.locs, Pt.cells, Pt.slots] at X' e1 e2 h1 h2 h3 st hcl
    subst h1; subst h2; subst h3
    exact Or.inr ⟨q, (T.setVm vm₁).calling g' mk As.toArray, t, U', L, E, ce, hT, X', hL, e1, e2, hq, hce, hcv, vx_cls hW₁ hcl, st⟩
end Runs
section Rows
variable {p : Program} {l : Launch} {e : Env} {R : Room} {s : State} {m : MethodId} {args : Array Value} {below : List Frame} {meth : Method} {c : Code} {H : Heap} {locs : List Loc} {cells slots : Nat} {Q : State → Prop}
variable {mc ms : Nat} {free : Addr → Prop} {A0 A1 : Nat → Prop} {H0 : Heap} {a : Array Value} {pc : Nat} {ls : Array Slot} {st0 rest : List Value}
theorem vx_keep {st₀ t T' : State} {L : List Loc} (h0 : st₀.heap = H) (e1 : T'.heap = t.heap) (hS : va_S A0 H0 H locs) (hA : ∀ q, q < H.size → A1 q → A0 q) (hf : ∀ q, free q → A0 q) (hL : ∀ q ∈ L, free q.base) (hF : va_F A1 st₀ t) :
    H.size ≤ T'.heap.size ∧ (∀ q : Nat, q < H.size → ¬ A1 q → T'.heap[q]? = H[q]?) ∧ va_S A0 H0 T'.heap (locs ++ L) := by
  obtain ⟨hz, hk⟩ := hF
  rw [h0] at hz hk
  exact ⟨by rw [e1]; exact hz, fun q h1 h2 => by rw [e1]; exact hk q h1 h2,
    ⟨Nat.le_trans hS.1 (by rw [e1]; exact hz), fun q h1 h2 => by rw [e1, hk q (Nat.lt_of_lt_of_le h1 hS.1) (fun z => h2 (hA q (Nat.lt_of_lt_of_le h1 hS.1) z))]; exact hS.2.1 q h1 h2, fun q hq => by
      rcases List.mem_append.mp hq with h | h
      · exact hS.2.2 q h
      · exact hf _ (hL q h)⟩⟩
theorem vx_calli {S SX : Type} {post : Int32 → S → Prop} {px : SX → Prop} {B : S → State → Prop} {BX : String → SX → State → Prop} {AX : Nat → Prop} (hr : vx_Run p l e R s m args below meth c H locs cells slots mc ms (F0 m pc ls st0) rest (va_Qi post B A1 a) (vx_X px BX AX) free) (hS : va_S A0 H0 H locs) (hA : ∀ q, q < H.size → A1 q → A0 q) (hf : ∀ q, free q → A0 q) (hAX : ∀ q, q < H.size → AX q → A0 q)
    (kx : ∀ (E : String) (ce : Cell) (q9 : Addr) (u : SX) (t : State) (H1 : Heap) (locs1 : List Loc), t.heap = H1 → s.vm.Alike t.vm → px u → BX E u t → H.size ≤ H1.size → (∀ q : Nat, q < H.size → ¬ AX q → H1[q]? = H[q]?) → va_S A0 H0 H1 locs1 → H1[q9]? = some ce → ce.vm = .none → s.vm.findClass E = some ce.cls → vx_W p l e R s m args below meth c H1 locs1 (cells + mc) (slots + ms) Q (F0 m pc ls rest) q9)
    (kk : ∀ (r : Int32) (u : S) (t : State) (H1 : Heap) (locs1 : List Loc), t.heap = H1 → s.vm.Alike t.vm → post r u → B u t → H.size ≤ H1.size → (∀ q : Nat, q < H.size → ¬ A1 q → H1[q]? = H[q]?) → va_S A0 H0 H1 locs1 → W p l e R s m args below meth c H1 locs1 (cells + mc) (slots + ms) Q (F0 m (pc + 3) ls (.int r :: rest))) : W p l e R s m args below meth c H locs cells slots Q (F0 m pc ls st0) := by
  intro T hT X
  rcases hr T hT X with ⟨v, st₀, t, T', L, h0, X', hL, e1, e2, ⟨⟨r, u, hv, hp, hb⟩, hF⟩, st⟩ | ⟨q, st₀, t, T', L, E, ce, h0, X', hL, e1, e2, ⟨u, hp, hb, hF⟩, hce, hcv, hcl, st⟩
  · cases hv
    obtain ⟨k1, k2, k3⟩ := vx_keep h0 e1 hS hA hf hL hF
    obtain ⟨t2, a1, b1⟩ := kk r u t T'.heap (locs ++ L) e1.symm (by rw [← e2]; exact X'.warmed.alike) hp hb k1 k2 k3 T' rfl X'
    exact ⟨t2, st t2 a1, b1⟩
  · obtain ⟨k1, k2, k3⟩ := vx_keep h0 e1 hS hAX hf hL hF
    obtain ⟨t2, a1, b1⟩ := kx E ce q u t T'.heap (locs ++ L) e1.symm (by rw [← e2]; exact X'.warmed.alike) hp hb k1 k2 k3 (by rw [e1]; exact hce) hcv hcl T' rfl X'
    exact ⟨t2, st.trans a1, b1⟩
theorem vx_calll {S SX : Type} {post : Int64 → S → Prop} {px : SX → Prop} {B : S → State → Prop} {BX : String → SX → State → Prop} {AX : Nat → Prop} (hr : vx_Run p l e R s m args below meth c H locs cells slots mc ms (F0 m pc ls st0) rest (va_Ql post B A1 a) (vx_X px BX AX) free) (hS : va_S A0 H0 H locs) (hA : ∀ q, q < H.size → A1 q → A0 q) (hf : ∀ q, free q → A0 q) (hAX : ∀ q, q < H.size → AX q → A0 q)
    (kx : ∀ (E : String) (ce : Cell) (q9 : Addr) (u : SX) (t : State) (H1 : Heap) (locs1 : List Loc), t.heap = H1 → s.vm.Alike t.vm → px u → BX E u t → H.size ≤ H1.size → (∀ q : Nat, q < H.size → ¬ AX q → H1[q]? = H[q]?) → va_S A0 H0 H1 locs1 → H1[q9]? = some ce → ce.vm = .none → s.vm.findClass E = some ce.cls → vx_W p l e R s m args below meth c H1 locs1 (cells + mc) (slots + ms) Q (F0 m pc ls rest) q9)
    (kk : ∀ (r : Int64) (u : S) (t : State) (H1 : Heap) (locs1 : List Loc), t.heap = H1 → s.vm.Alike t.vm → post r u → B u t → H.size ≤ H1.size → (∀ q : Nat, q < H.size → ¬ A1 q → H1[q]? = H[q]?) → va_S A0 H0 H1 locs1 → W p l e R s m args below meth c H1 locs1 (cells + mc) (slots + ms) Q (F0 m (pc + 3) ls (.long r :: rest))) : W p l e R s m args below meth c H locs cells slots Q (F0 m pc ls st0) := by
  intro T hT X
  rcases hr T hT X with ⟨v, st₀, t, T', L, h0, X', hL, e1, e2, ⟨⟨r, u, hv, hp, hb⟩, hF⟩, st⟩ | ⟨q, st₀, t, T', L, E, ce, h0, X', hL, e1, e2, ⟨u, hp, hb, hF⟩, hce, hcv, hcl, st⟩
  · cases hv
    obtain ⟨k1, k2, k3⟩ := vx_keep h0 e1 hS hA hf hL hF
    obtain ⟨t2, a1, b1⟩ := kk r u t T'.heap (locs ++ L) e1.symm (by rw [← e2]; exact X'.warmed.alike) hp hb k1 k2 k3 T' rfl X'
    exact ⟨t2, st t2 a1, b1⟩
  · obtain ⟨k1, k2, k3⟩ := vx_keep h0 e1 hS hAX hf hL hF
    obtain ⟨t2, a1, b1⟩ := kx E ce q u t T'.heap (locs ++ L) e1.symm (by rw [← e2]; exact X'.warmed.alike) hp hb k1 k2 k3 (by rw [e1]; exact hce) hcv hcl T' rfl X'
    exact ⟨t2, st.trans a1, b1⟩
theorem vx_callf {S SX : Type} {post : UInt32 → S → Prop} {px : SX → Prop} {B : S → State → Prop} {BX : String → SX → State → Prop} {AX : Nat → Prop} (hr : vx_Run p l e R s m args below meth c H locs cells slots mc ms (F0 m pc ls st0) rest (va_Qf post B A1 a) (vx_X px BX AX) free) (hS : va_S A0 H0 H locs) (hA : ∀ q, q < H.size → A1 q → A0 q) (hf : ∀ q, free q → A0 q) (hAX : ∀ q, q < H.size → AX q → A0 q)
    (kx : ∀ (E : String) (ce : Cell) (q9 : Addr) (u : SX) (t : State) (H1 : Heap) (locs1 : List Loc), t.heap = H1 → s.vm.Alike t.vm → px u → BX E u t → H.size ≤ H1.size → (∀ q : Nat, q < H.size → ¬ AX q → H1[q]? = H[q]?) → va_S A0 H0 H1 locs1 → H1[q9]? = some ce → ce.vm = .none → s.vm.findClass E = some ce.cls → vx_W p l e R s m args below meth c H1 locs1 (cells + mc) (slots + ms) Q (F0 m pc ls rest) q9)
    (kk : ∀ (r : UInt32) (u : S) (t : State) (H1 : Heap) (locs1 : List Loc), t.heap = H1 → s.vm.Alike t.vm → post r u → B u t → H.size ≤ H1.size → (∀ q : Nat, q < H.size → ¬ A1 q → H1[q]? = H[q]?) → va_S A0 H0 H1 locs1 → W p l e R s m args below meth c H1 locs1 (cells + mc) (slots + ms) Q (F0 m (pc + 3) ls (.float r :: rest))) : W p l e R s m args below meth c H locs cells slots Q (F0 m pc ls st0) := by
  intro T hT X
  rcases hr T hT X with ⟨v, st₀, t, T', L, h0, X', hL, e1, e2, ⟨⟨r, u, hv, hp, hb⟩, hF⟩, st⟩ | ⟨q, st₀, t, T', L, E, ce, h0, X', hL, e1, e2, ⟨u, hp, hb, hF⟩, hce, hcv, hcl, st⟩
  · cases hv
    obtain ⟨k1, k2, k3⟩ := vx_keep h0 e1 hS hA hf hL hF
    obtain ⟨t2, a1, b1⟩ := kk r u t T'.heap (locs ++ L) e1.symm (by rw [← e2]; exact X'.warmed.alike) hp hb k1 k2 k3 T' rfl X'
    exact ⟨t2, st t2 a1, b1⟩
  · obtain ⟨k1, k2, k3⟩ := vx_keep h0 e1 hS hAX hf hL hF
    obtain ⟨t2, a1, b1⟩ := kx E ce q u t T'.heap (locs ++ L) e1.symm (by rw [← e2]; exact X'.warmed.alike) hp hb k1 k2 k3 (by rw [e1]; exact hce) hcv hcl T' rfl X'
    exact ⟨t2, st.trans a1, b1⟩
theorem vx_calld {S SX : Type} {post : UInt64 → S → Prop} {px : SX → Prop} {B : S → State → Prop} {BX : String → SX → State → Prop} {AX : Nat → Prop} (hr : vx_Run p l e R s m args below meth c H locs cells slots mc ms (F0 m pc ls st0) rest (va_Qd post B A1 a) (vx_X px BX AX) free) (hS : va_S A0 H0 H locs) (hA : ∀ q, q < H.size → A1 q → A0 q) (hf : ∀ q, free q → A0 q) (hAX : ∀ q, q < H.size → AX q → A0 q)
    (kx : ∀ (E : String) (ce : Cell) (q9 : Addr) (u : SX) (t : State) (H1 : Heap) (locs1 : List Loc), t.heap = H1 → s.vm.Alike t.vm → px u → BX E u t → H.size ≤ H1.size → (∀ q : Nat, q < H.size → ¬ AX q → H1[q]? = H[q]?) → va_S A0 H0 H1 locs1 → H1[q9]? = some ce → ce.vm = .none → s.vm.findClass E = some ce.cls → vx_W p l e R s m args below meth c H1 locs1 (cells + mc) (slots + ms) Q (F0 m pc ls rest) q9)
    (kk : ∀ (r : UInt64) (u : S) (t : State) (H1 : Heap) (locs1 : List Loc), t.heap = H1 → s.vm.Alike t.vm → post r u → B u t → H.size ≤ H1.size → (∀ q : Nat, q < H.size → ¬ A1 q → H1[q]? = H[q]?) → va_S A0 H0 H1 locs1 → W p l e R s m args below meth c H1 locs1 (cells + mc) (slots + ms) Q (F0 m (pc + 3) ls (.double r :: rest))) : W p l e R s m args below meth c H locs cells slots Q (F0 m pc ls st0) := by
  intro T hT X
  rcases hr T hT X with ⟨v, st₀, t, T', L, h0, X', hL, e1, e2, ⟨⟨r, u, hv, hp, hb⟩, hF⟩, st⟩ | ⟨q, st₀, t, T', L, E, ce, h0, X', hL, e1, e2, ⟨u, hp, hb, hF⟩, hce, hcv, hcl, st⟩
  · cases hv
    obtain ⟨k1, k2, k3⟩ := vx_keep h0 e1 hS hA hf hL hF
    obtain ⟨t2, a1, b1⟩ := kk r u t T'.heap (locs ++ L) e1.symm (by rw [← e2]; exact X'.warmed.alike) hp hb k1 k2 k3 T' rfl X'
    exact ⟨t2, st t2 a1, b1⟩
  · obtain ⟨k1, k2, k3⟩ := vx_keep h0 e1 hS hAX hf hL hF
    obtain ⟨t2, a1, b1⟩ := kx E ce q u t T'.heap (locs ++ L) e1.symm (by rw [← e2]; exact X'.warmed.alike) hp hb k1 k2 k3 (by rw [e1]; exact hce) hcv hcl T' rfl X'
    exact ⟨t2, st.trans a1, b1⟩
theorem vx_callv {S SX : Type} {post : S → Prop} {px : SX → Prop} {B : S → State → Prop} {BX : String → SX → State → Prop} {AX : Nat → Prop} (hr : vx_Run p l e R s m args below meth c H locs cells slots mc ms (F0 m pc ls st0) rest (va_Qv post B A1 a) (vx_X px BX AX) free) (hS : va_S A0 H0 H locs) (hA : ∀ q, q < H.size → A1 q → A0 q) (hf : ∀ q, free q → A0 q) (hAX : ∀ q, q < H.size → AX q → A0 q)
    (kx : ∀ (E : String) (ce : Cell) (q9 : Addr) (u : SX) (t : State) (H1 : Heap) (locs1 : List Loc), t.heap = H1 → s.vm.Alike t.vm → px u → BX E u t → H.size ≤ H1.size → (∀ q : Nat, q < H.size → ¬ AX q → H1[q]? = H[q]?) → va_S A0 H0 H1 locs1 → H1[q9]? = some ce → ce.vm = .none → s.vm.findClass E = some ce.cls → vx_W p l e R s m args below meth c H1 locs1 (cells + mc) (slots + ms) Q (F0 m pc ls rest) q9)
    (kk : ∀ (u : S) (t : State) (H1 : Heap) (locs1 : List Loc), t.heap = H1 → s.vm.Alike t.vm → post u → B u t → H.size ≤ H1.size → (∀ q : Nat, q < H.size → ¬ A1 q → H1[q]? = H[q]?) → va_S A0 H0 H1 locs1 → W p l e R s m args below meth c H1 locs1 (cells + mc) (slots + ms) Q (F0 m (pc + 3) ls (rest))) : W p l e R s m args below meth c H locs cells slots Q (F0 m pc ls st0) := by
  intro T hT X
  rcases hr T hT X with ⟨v, st₀, t, T', L, h0, X', hL, e1, e2, ⟨⟨u, hv, hp, hb⟩, hF⟩, st⟩ | ⟨q, st₀, t, T', L, E, ce, h0, X', hL, e1, e2, ⟨u, hp, hb, hF⟩, hce, hcv, hcl, st⟩
  · cases hv
    obtain ⟨k1, k2, k3⟩ := vx_keep h0 e1 hS hA hf hL hF
    obtain ⟨t2, a1, b1⟩ := kk u t T'.heap (locs ++ L) e1.symm (by rw [← e2]; exact X'.warmed.alike) hp hb k1 k2 k3 T' rfl X'
    exact ⟨t2, st t2 a1, b1⟩
  · obtain ⟨k1, k2, k3⟩ := vx_keep h0 e1 hS hAX hf hL hF
    obtain ⟨t2, a1, b1⟩ := kx E ce q u t T'.heap (locs ++ L) e1.symm (by rw [← e2]; exact X'.warmed.alike) hp hb k1 k2 k3 (by rw [e1]; exact hce) hcv hcl T' rfl X'
    exact ⟨t2, st.trans a1, b1⟩
/-- caught by the row x of this method's table; the rows ahead don't take it -/
theorem vx_catch {own name : String} {E : String} {ce : Cell} {q : Addr} (hown : s.vm.findClass own = some m.cls) (pre : List ExceptionTableEntry) (x : ExceptionTableEntry) (suf : List ExceptionTableEntry) (hsplit : c.exceptionTable.toList = pre ++ x :: suf)
    (hpass : ∀ z ∈ pre, covers z pc = false ∨ (z.catchType ≠ 0 ∧ ∃ nm : String, (Cond.classLink own z.catchType nm).before args s = true ∧ va_Nc E nm s)) (hx : covers x pc = true) (h0 : x.catchType ≠ 0)
    (hlink : (Cond.classLink own x.catchType name).before args s = true) (hcast : (Cond.castable E name).before args s = true) (hcell : H[q]? = some ce) (hv : ce.vm = .none) (hcl : s.vm.findClass E = some ce.cls)
    (kk : W p l e R s m args below meth c H locs cells slots Q (F0 m x.handlerPc ls [.ref q])) : vx_W p l e R s m args below meth c H locs cells slots Q (F0 m pc ls rest) q := by
  intro T hT X
  have hpl : e.platform.magicAccessors = ({} : Platform).magicAccessors := by rw [X.admits.platform]
  obtain ⟨c3, c4, hc3, hc4, hasg⟩ := Cond.castable_spec hcast
  cases Option.some.inj (hc3.symm.trans hcl)
  obtain ⟨c5, hc5, hcl5⟩ := Cond.classLink_spec hown hlink e.platform hpl
  cases Option.some.inj (hc4.symm.trans hc5)
  obtain ⟨vm', X', st⟩ := X.thenCaughtThrough q (g := F0 m pc ls rest) rfl (Steps.refl _) (by rw [hT]; exact hcell) (by rw [hv]; rfl) (by obtain ⟨k9, h9, -⟩ := Vm.findClass_spec hcl; exact ⟨k9, h9⟩) pre x suf hsplit
    (fun z hz => by
      rcases hpass z hz with h | ⟨hz0, nm, hl1, hn1⟩
      · exact Or.inl h
      · obtain ⟨c6, hc6, hcl6⟩ := Cond.classLink_spec hown hl1 e.platform hpl
        obtain ⟨a8, b8, h1, h2, h3⟩ := hn1
        cases Option.some.inj (h1.symm.trans hcl)
        cases Option.some.inj (h2.symm.trans hc6)
        exact Or.inr ⟨hz0, _, hcl6, h3⟩) hx (Or.inr ⟨h0, c4, hcl5, hasg⟩)
  obtain ⟨t, a1, b1⟩ := kk (T.setVm vm') hT X'
  exact ⟨t, st.trans a1, b1⟩
end Rows
section Ends
variable {p : Program} {l : Launch} {e : Env} {R : Room} {s : State} {m : MethodId} {args : Array Value} {below : List Frame} {meth : Method} {c : Code} {H : Heap} {locs : List Loc} {cells slots : Nat} {Q : State → Prop}
variable {mc ms : Nat} {free : Addr → Prop} {A0 A1 : Nat → Prop} {H0 : Heap} {a : Array Value} {ls : Array Slot} {st0 rest : List Value}
variable {Qc : Array Value → State → Outcome → State → Prop} {XC : String → State → State → Prop}
/-- what a body that may throw owes at its end -/
def vx_MQ (below : List Frame) (Qc : Array Value → State → Outcome → State → Prop) (XC : String → State → State → Prop) (a : Array Value) (s : State) (mc ms : Nat) (free : Addr → Prop) : State → Prop := fun t =>
  ∃ o, t.status = .running ∧ Ended t below o ∧ vx_Q Qc XC mc ms free a s o t
theorem vx_ret {g : JFrame} {mc ms : Nat} (k : W p l e R s m args below meth c H locs cells slots (MQ below Qc args s mc ms free) g) : W p l e R s m args below meth c H locs cells slots (vx_MQ below Qc XC args s mc ms free) g := by
  intro T hT X
  obtain ⟨t, a1, o, b1, b2, b3, b4⟩ := k T hT X
  exact ⟨t, a1, o, b1, b2, Or.inl ⟨b3, b4⟩⟩
/-- not caught here: it goes on to the caller -/
theorem vx_widen {g : JFrame} {q : Addr} {k n : Nat} (h1 : cells ≤ k) (h2 : slots ≤ n) (kk : vx_W p l e R s m args below meth c H locs k n Q g q) : vx_W p l e R s m args below meth c H locs cells slots Q g q := fun T hT X => kk T hT (stand_widen X h1 h2)
theorem vx_out {pc : Nat} {E : String} {ce : Cell} {q : Addr} {mc ms : Nat} (hout : ∀ x ∈ c.exceptionTable.toList, covers x pc = false) (hlocks : meth.locks = false) (hcell : H[q]? = some ce) (hv : ce.vm = .none) (hcl : s.vm.findClass E = some ce.cls)
    (hx : ∀ t : State, t.heap = H → s.vm.Alike t.vm → XC E s t) (hf : ∀ z ∈ locs, free z.base) (hc : cells ≤ mc) (hs : slots ≤ ms) :
    vx_W p l e R s m args below meth c H locs cells slots (vx_MQ below Qc XC args s mc ms free) (F0 m pc ls rest) q := by
  intro T hT X
  obtain ⟨st1, hrun, hend, hW, hsm⟩ := X.leaveThrown q (g := F0 m pc ls rest) rfl rfl rfl hout hlocks
  have hcell9 : (T.setFrames (.throwing q :: below)).heap[q]? = some ce := by
    show T.heap[q]? = some ce
    rw [hT]; exact hcell
  exact ⟨_, st1, .threw q, hrun, hend, Or.inr ⟨q, rfl, E, ce, locs, hx _ hT hW.alike, hcell9, hv, hcl, hW, hsm.mono hc hs, hf⟩⟩
theorem vx_frame {U : State} {k n : Nat} (h : s.sameButNew ({ U with vm := s.vm } : State) locs k n) : s.heap.size ≤ U.heap.size ∧ ∀ q : Nat, q < s.heap.size → (∀ z ∈ locs, z.base ≠ q) → U.heap[q]? = s.heap[q]? := by
  obtain ⟨-, h2, -, -, -, h6⟩ := h
  refine ⟨h2, fun q hq hz => ?_⟩
  obtain ⟨c9, e1, e2, e3, e4⟩ := h6 q _ (Array.getElem?_eq_getElem hq)
  have hs : c9.slots = (s.heap[q]).slots := Array.ext_getElem? fun i => e4 i fun hm => hz _ hm rfl
  have h9 : c9 = s.heap[q] := by
    rw [hs] at e2
    exact e2
  have e5 : U.heap[q]? = some c9 := e1
  rw [e5, h9, Array.getElem?_eq_getElem hq]
/-- the words of a throw but the four that speak of the heap -/
def vx_no (w : Cond) : Bool := decide (w ≠ .isRef (.static Bundle.tN "UNASSIGNED_STACK" Bundle.steD)) && decide (w ≠ .isRef (.static Bundle.tN "SUPPRESSED_SENTINEL" Bundle.listD)) && decide (w ≠ .laysStatic Bundle.tN "UNASSIGNED_STACK" Bundle.steD) && decide (w ≠ .laysStatic Bundle.tN "SUPPRESSED_SENTINEL" Bundle.listD)
def vx_at0 (own : String) (ic : Nat) (X : String) (names : List String) : List Cond := (Bundle.ownAtoms0 own ic X names).filter vx_no
def vx_atS (own : String) (ic : Nat) (X : String) (names : List String) : List Cond := (Bundle.ownAtoms own ic X names).filter vx_no
/-- a word that the tables alone decide, or a good one -/
def vx_ot (w : Cond) : Bool := w.onTables || goodWord w
theorem vx_ot_at {args a' : Array Value} {s U : State} {w : Cond} (hW : s.WarmedH U.vm) (hvm : s.vm = U.vm) (hg : vx_ot w = true) (h : w.before args s = true) : w.before a' U = true := by
  simp only [vx_ot, Bool.or_eq_true] at hg
  rcases hg with hg | hg
  · exact va_tabs hg hvm h
  · exact word_at hW (good_of_word hg) h
/-- a list's words: the good ones out of the method's own list, the others by premises of their own -/
theorem vx_hat {args : Array Value} {s : State} {L B : List Cond} (h1 : ∀ w ∈ L.filter goodWord, w.before args s = true) (h2 : ∀ w ∈ L.filter (fun w => !goodWord w), w ∈ B) (h3 : ∀ w ∈ B, w.before args s = true) : ∀ w ∈ L, w.before args s = true := by
  intro w hw
  by_cases g : goodWord w = true
  · exact h1 w (List.mem_filter.mpr ⟨hw, g⟩)
  · refine h3 w (h2 w (List.mem_filter.mpr ⟨hw, ?_⟩))
    show (!goodWord w) = true
    cases hgw : goodWord w
    · rfl
    · exact absurd hgw g
theorem vx_c {args : Array Value} {s : State} {w : Cond} {B : List Cond} (h : w.before args s = true) (t : ∀ w ∈ B, w.before args s = true) : ∀ w' ∈ w :: B, w'.before args s = true := fun w' h' => (List.mem_cons.mp h').elim (fun e => by rw [e]; exact h) (t w')
theorem vx_n {args : Array Value} {s : State} : ∀ w ∈ ([] : List Cond), w.before args s = true := fun _ h => nomatch h
theorem vx_own {args : Array Value} {s : State} {L : List Cond} (h1 : ∀ w ∈ L.filter vx_no, w.before args s = true)
    (hU : (Cond.isRef (.static Bundle.tN "UNASSIGNED_STACK" Bundle.steD)).before args s = true) (hN : (Cond.isRef (.static Bundle.tN "SUPPRESSED_SENTINEL" Bundle.listD)).before args s = true)
    (lU : (Cond.laysStatic Bundle.tN "UNASSIGNED_STACK" Bundle.steD).before args s = true) (lN : (Cond.laysStatic Bundle.tN "SUPPRESSED_SENTINEL" Bundle.listD).before args s = true) : ∀ w ∈ L, w.before args s = true := by
  intro w hw
  by_cases e1 : w = .isRef (.static Bundle.tN "UNASSIGNED_STACK" Bundle.steD)
  · rw [e1]; exact hU
  · by_cases e2 : w = .isRef (.static Bundle.tN "SUPPRESSED_SENTINEL" Bundle.listD)
    · rw [e2]; exact hN
    · by_cases e3 : w = .laysStatic Bundle.tN "UNASSIGNED_STACK" Bundle.steD
      · rw [e3]; exact lU
      · by_cases e4 : w = .laysStatic Bundle.tN "SUPPRESSED_SENTINEL" Bundle.listD
        · rw [e4]; exact lN
        · exact h1 w (List.mem_filter.mpr ⟨hw, by unfold vx_no; rw [decide_eq_true e1, decide_eq_true e2, decide_eq_true e3, decide_eq_true e4]; rfl⟩)
/-- where a static field lies, its class's statics cell in H -/
def vx_L (C n d : String) (A : Nat → Prop) (U : State) (H : Heap) : Prop := ∃ (c : ClassId) (k : Class) (i : Nat) (f : Field) (a : Nat) (cell : Cell), U.vm.findClass C = some c ∧ U.fieldFound? C n d = some (c, k, i, f) ∧ f.isStatic = true ∧ k.statics = some a ∧ H[a]? = some cell ∧ cell.vm.isStatics = true ∧ cell.cls = c ∧ f.slot < cell.slots.size ∧ k.staticTypes[f.slot]? = some f.type ∧ ¬ A a
theorem vx_L.moved {C n d : String} {A : Nat → Prop} {u U : State} {H : Heap} (hvm : u.vm.Alike U.vm) (h : vx_L C n d A u H) : vx_L C n d A U H := by
  obtain ⟨c, k, i, f, a, cell, h1, h2, h3, h4, h5, h6, h7, h8, h9, h10⟩ := h
  obtain ⟨k', hi', he⟩ := State.fieldFound?_setVm hvm h2
  exact ⟨c, k', i, f, a, cell, by rw [hvm.findClass]; exact h1, hi', h3, by rw [he]; exact h4, h5, h6, h7, h8, by rw [he]; exact h9, h10⟩
theorem vx_L.kept {C n d : String} {A : Nat → Prop} {U : State} {H H1 : Heap} (h : vx_L C n d A U H) (hq : ∀ a : Nat, a < H.size → ¬ A a → H1[a]? = H[a]?) : vx_L C n d A U H1 := by
  obtain ⟨c, k, i, f, a, cell, h1, h2, h3, h4, h5, h6, h7, h8, h9, h10⟩ := h
  exact ⟨c, k, i, f, a, cell, h1, h2, h3, h4, by rw [hq a (Array.getElem?_eq_some_iff.mp h5).1 h10]; exact h5, h6, h7, h8, h9, h10⟩
theorem vx_L.narrow {C n d : String} {A B : Nat → Prop} {U : State} {H : Heap} (h : vx_L C n d A U H) (hAB : ∀ q, B q → A q) : vx_L C n d B U H := by
  obtain ⟨c, k, i, f, a, cell, h1, h2, h3, h4, h5, h6, h7, h8, h9, h10⟩ := h
  exact ⟨c, k, i, f, a, cell, h1, h2, h3, h4, h5, h6, h7, h8, h9, fun z => h10 (hAB _ z)⟩
theorem vx_L.word {C n d : String} {A : Nat → Prop} {s : State} {args : Array Value} (h : vx_L C n d A s s.heap) : (Cond.laysStatic C n d).before args s = true := by
  obtain ⟨c, k, i, f, a, cell, h1, h2, h3, h4, h5, h6, h7, h8, h9, -⟩ := h
  show (Cond.laysStatic C n d).holds args s none s [] = true
  exact Cond.laysStatic_of h1 h2 h3 h4 h5 h6 h7 h8 h9
/-- .. and what it holds: null or some reference -/
def vx_Zq (C n d : String) (A : Nat → Prop) (U : State) (H : Heap) : Prop := va_Zq C n d A U H ∧ vx_L C n d A U H
theorem vx_Zq.moved {C n d : String} {A : Nat → Prop} {u U : State} {H : Heap} (hvm : u.vm.Alike U.vm) (h : vx_Zq C n d A u H) : vx_Zq C n d A U H := ⟨va_Zq.moved hvm h.1, vx_L.moved hvm h.2⟩
theorem vx_Zq.kept {C n d : String} {A : Nat → Prop} {U : State} {H H1 : Heap} (h : vx_Zq C n d A U H) (hq : ∀ a : Nat, a < H.size → ¬ A a → H1[a]? = H[a]?) : vx_Zq C n d A U H1 := ⟨va_Zq.kept h.1 hq, vx_L.kept h.2 hq⟩
theorem vx_Zq.narrow {C n d : String} {A B : Nat → Prop} {U : State} {H : Heap} (h : vx_Zq C n d A U H) (hAB : ∀ q, B q → A q) : vx_Zq C n d B U H := ⟨va_Zq.narrow h.1 hAB, vx_L.narrow h.2 hAB⟩
theorem vx_Zqof {args : Array Value} {s : State} {C n d : String} {A : Nat → Prop} (hl : (Cond.laysStatic C n d).before args s = true) (hini : (Cond.initialized C).before args s = true) (h : (Cond.isRef (.static C n d)).before args s = true) (hA : ∀ a : Nat, a < s.heap.size → ¬ A a) : vx_Zq C n d A s s.heap := by
  refine ⟨va_Zqof hl hini h hA, ?_⟩
  obtain ⟨c, k, i, f, a, cell, h1, h2, h3, h4, h5, h6, h7, h8, h9⟩ := Cond.laysStatic_spec hl
  exact ⟨c, k, i, f, a, cell, h1, h2, h3, h4, h5, h6, h7, h8, h9, hA a (Array.getElem?_eq_some_iff.mp h5).1⟩
theorem vx_isRef {C n d : String} {v : Value} {A : Nat → Prop} {s : State} {args : Array Value} (h : va_Z C n d v A s s.heap) (hv : v.isRef = true) : (Cond.isRef (.static C n d)).before args s = true := by
  obtain ⟨cf, kf, fi, f, a, cell, h1, h2, h3, h4, h5, h6, h7, -⟩ := h
  have he : (Term.static C n d).eval args s none [] s = some v := by
    simp [Term.eval, State.fieldNamed?, h1, h2, h4, h5, h6, h7]
  simp only [Cond.before, Cond.holds, Cond.value, he]
  cases v <;> simp_all [Value.isRef]
theorem vx_isRefq {C n d : String} {A : Nat → Prop} {s : State} {args : Array Value} (h : va_Zq C n d A s s.heap) : (Cond.isRef (.static C n d)).before args s = true := by
  rcases h with h | ⟨t, h⟩
  · exact vx_isRef h rfl
  · exact vx_isRef h rfl
/-- the same frame, seen from here: as if the method were called anew in this heap -/
theorem vx_rebase {T : State} (X : Stand p l e R s m args below meth c T locs cells slots) {R' : Room} (hf : R'.frames ≤ R.frames) (hl : R'.locals ≤ R.locals) (hc : cells + R'.cells ≤ R.cells) (hs : slots + R'.slots ≤ R.slots) :
    Stand p l e R' ((T.setVm s.vm).setFrames (.invoking m args :: below)) m args below meth c T [] 0 0 := by
  have htop : (T.setVm s.vm).topJava?.isSome := X.here.top
  have hF : ((T.setVm s.vm).setFrames (.invoking m args :: below)).frames = .invoking m args :: below := State.frames_setFrames _ (State.cur_lt_of_top htop)
  obtain ⟨g₀, hg0⟩ := Option.isSome_iff_exists.mp htop
  obtain ⟨r, hr⟩ := State.topJava?_eq_some.mp hg0
  have hl9 : e.platform.stackLimits (T.setVm s.vm).me = e.platform.stackLimits s.me := X.limits
  have hb9 : (T.setVm s.vm).me.stackBytes = s.me.stackBytes := X.bytes
  refine ⟨X.admits, X.cas, X.clock, hF, ?_, X.hears, X.method, X.code, X.here, X.tail, X.warmed, ?_, ?_, ?_⟩
  · have h := X.room
    have hU : ((T.setVm s.vm).setFrames (.invoking m args :: below)).localsInUse = s.localsInUse := by
      rw [State.localsInUse_invoking hF (meth := meth) (c := c) X.method X.code, State.localsInUse_invoking X.frames X.method X.code]
    simp only [State.hasRoom, Bool.and_eq_true, decide_eq_true_eq] at h ⊢
    obtain ⟨⟨⟨⟨h1, h2, h3, h4, h5, h6⟩, h7⟩, h8⟩, h9⟩ := h
    rw [X.frames, List.length_cons] at h2 h3
    have q1 := X.heapSize
    have q2 := X.used
    simp only [hF, hU, List.length_cons, State.stackLimits_setFrames, State.stackBytes_setFrames, hl9, hb9]
    refine ⟨⟨⟨⟨by omega, by omega, by omega, by omega, by omega, h6⟩, ?_⟩, ?_⟩, X.book⟩
    · show T.heap.size + R'.cells ≤ e.platform.maxCells
      omega
    · show T.slotsUsed + R'.slots ≤ e.platform.maxSlots
      omega
  · rw [State.stackLimits_setFrames]; rfl
  · rw [State.stackBytes_setFrames]; rfl
  · refine ⟨?_, Nat.le_refl _, Nat.le_refl _, ?_, ?_, fun a c9 h9 => ⟨c9, h9, rfl, rfl, fun _ _ => rfl⟩⟩
    · obtain ⟨t, ht, -⟩ := State.frames_cons hr
      show T.setVm s.vm = { ((T.setVm s.vm).setFrames (.invoking m args :: below)).setFrames (T.setVm s.vm).frames with heap := T.heap, slotsUsed := T.slotsUsed }
      rw [State.setFrames_setFrames, State.setFrames_self ht]
      rfl
    · show T.slotsUsed = T.slotsUsed + ((T.heap.toList.drop T.heap.size).map (·.slots.size)).sum
      rw [List.drop_eq_nil_of_le (Nat.le_of_eq Array.length_toList)]
      rfl
    · show ((T.heap.toList.drop T.heap.size).map (·.slots.size)).sum ≤ 0
      rw [List.drop_eq_nil_of_le (Nat.le_of_eq Array.length_toList)]
      exact Nat.le_refl _
/-- 'throw new E()': new; dup; invokespecial; athrow -/
theorem vx_throw0 {cc : ByteArray} {pc : Nat} (hexec : p.tables.exec = Jvm.exec) (hb : c.code = cc) (hl : l.stackTraces = false) {own cls : String} {names : List String} {ik ic mc ms : Nat} {A : Nat → Prop}
    (hown : s.vm.findClass own = some m.cls) (hcls : Bundle.fit cls = true) (hnames : ∀ n ∈ names, Bundle.fit n = true)
    (hk : (Cond.classLink own ik cls).before args s = true) (hini : (Cond.initialized cls).before args s = true) (hat : ∀ w ∈ vx_at0 own ic cls names, w.before args s = true)
    (hgood : ∀ w ∈ Cond.classLink own ik cls :: Cond.initialized cls :: vx_at0 own ic cls names, vx_ot w = true)
    (hU : vx_Zq Bundle.tN "UNASSIGNED_STACK" Bundle.steD A s s.heap) (hN : vx_Zq Bundle.tN "SUPPRESSED_SENTINEL" Bundle.listD A s s.heap) (hS : va_S A s.heap H locs) (hsize : ls.size = c.maxLocals)
    (d0 : decode cc pc = .ok (.new ik, 3)) (d3 : decode cc (pc + 3) = .ok (.dup, 1)) (d4 : decode cc (pc + 4) = .ok (.invokespecial ic, 3)) (d7 : decode cc (pc + 7) = .ok (.athrow, 1))
    (hout : ∀ x ∈ c.exceptionTable.toList, covers x (pc + 7) = false)
    (hRframes : names.length + 3 < R.frames) (hRlocals : (rest.map fun v => v.category).sum + (13 * (names.length + 1) + 42) ≤ R.locals) (hRcells : cells + 1 ≤ R.cells) (hRslots : slots + 6 ≤ R.slots) (hlocks : meth.locks = false)
    (hx : ∀ t : State, s.vm.Alike t.vm → H.size ≤ t.heap.size → (∀ q : Nat, q < H.size → t.heap[q]? = H[q]?) → XC cls s t)
    (hf : ∀ z ∈ locs, free z.base) (hc : cells + 1 ≤ mc) (hs : slots + 6 ≤ ms) :
    W p l e R s m args below meth c H locs cells slots (vx_MQ below Qc XC args s mc ms free) (F0 m pc ls rest) := by
  intro T hT X
  have htr : e.platform.stackTraces = false := (show e.platform.stackTraces = l.stackTraces by rw [X.admits.platform]).trans hl
  have Y := vx_rebase X (R' := { frames := R.frames, locals := R.locals, cells := 1, slots := 6 }) (Nat.le_refl _) (Nat.le_refl _) hRcells hRslots
  obtain ⟨s', hA⟩ : ∃ z, z = (T.setVm s.vm).setFrames (.invoking m args :: below) := ⟨_, rfl⟩
  rw [← hA] at Y
  have hvm : s'.vm = s.vm := by rw [hA]; rfl
  have hhp : s'.heap = H := by rw [hA]; exact hT
  have hW0 : s.WarmedH s'.vm := by rw [hvm]; exact State.WarmedH.refl s
  have hat' : ∀ w ∈ vx_at0 own ic cls names, w.before args s' = true := fun w hw => vx_ot_at hW0 hvm.symm (hgood w (List.mem_cons_of_mem _ (List.mem_cons_of_mem _ hw))) (hat w hw)
  have hk' : (Cond.classLink own ik cls).before args s' = true := vx_ot_at hW0 hvm.symm (hgood _ List.mem_cons_self) hk
  have hini' : (Cond.initialized cls).before args s' = true := vx_ot_at hW0 hvm.symm (hgood _ (List.mem_cons_of_mem _ List.mem_cons_self)) hini
  have hU' : vx_Zq Bundle.tN "UNASSIGNED_STACK" Bundle.steD A s' s'.heap := by rw [hhp]; exact vx_Zq.moved hW0.alike (hU.kept hS.2.1)
  have hN' : vx_Zq Bundle.tN "SUPPRESSED_SENTINEL" Bundle.listD A s' s'.heap := by rw [hhp]; exact vx_Zq.moved hW0.alike (hN.kept hS.2.1)
  have h : ∀ w ∈ Bundle.ownAtoms0 own ic cls names, w.before args s' = true := vx_own hat' (vx_isRefq hU'.1) (vx_isRefq hN'.1) hU'.2.word hN'.2.word
  have hown' : s'.vm.findClass own = some m.cls := by rw [hvm]; exact hown
  have hins : (Cond.instantiable cls 6).before args s' = true := h _ (by simp [Bundle.ownAtoms0])
  obtain ⟨vm₁, cX, kX, hfX, hkX, -, -, X₁, st1⟩ := Y.newCold hexec (own := own) (C := cls) (index := ik) (n := 6) hown' hk' hins hini'
    (g := F0 m pc ls rest) rfl (by rw [hb]; exact d0) (Nat.le_refl _) (Nat.le_refl _)
  generalize hT1 : (T.setVm vm₁).pushCell { cls := cX, slots := kX.instanceTypes.map defaultValue, vm := .none } = T1 at X₁ st1
  have hcat : (Value.ref T.heap.size).category = 1 := rfl
  have hcellA : T1.heap[T.heap.size]? = some (freshCell cX kX) := by rw [← hT1]; exact State.heap_pushCell_size _ _
  have d3' : decode c.code (pc + 3) = .ok (.dup, 1) := by rw [hb]; exact d3
  obtain ⟨U, hsteps, hrun, hend, hW, hsame, ce, hce, hO⟩ := X₁.ctorThrow0 hexec htr (own := own) (cls := cls) (names := names) (ic := ic) hown' hcls hnames h (fun x hx => nomatch hx) hfX hkX hcellA (by rw [hhp, hT]; exact Nat.le_refl _)
    (g := { method := m, pc := pc + 4, locals := ls, stack := .ref T.heap.size :: .ref T.heap.size :: rest, locked := none }) rfl hsize rfl rfl (rest := rest) rfl
    (by rw [hb]; exact d4) (by rw [hb]; exact d7) hout hRframes (by simp only [List.map_cons, List.sum_cons, hcat]; omega) hlocks
  obtain ⟨f1, f2⟩ := vx_frame hsame
  rw [hhp] at f1 f2
  have hWs : s.WarmedH U.vm := State.WarmedH.trans hW0 hW
  have hcl : s.vm.findClass cls = some ce.cls := by
    have h9 := hO.cls
    rw [hvm] at h9
    exact h9
  have hall : s.sameButNew ({ U with vm := s.vm } : State) locs mc ms := by
    subst hA
    obtain ⟨e1, e2⟩ := hsame
    rw [State.setFrames_setFrames] at e1
    have h2 : (T.setVm s.vm).sameButNew ({ U with vm := s.vm } : State) [] (0 + 1) (0 + 6) := ⟨e1, e2⟩
    have h3 := X.same.trans h2
    rw [List.append_nil] at h3
    exact h3.mono hc hs
  refine ⟨U, ?_, .threw T.heap.size, hrun, hend, Or.inr ⟨T.heap.size, rfl, cls, ce, locs, hx U hWs.alike f1 (fun q hq => f2 q hq (fun z hz => nomatch hz)), hce, hO.vm, hcl, hWs, hall, hf⟩⟩
  refine st1 _ ?_
  show Steps p.tables e below (T1.setTop { method := m, pc := pc + 3, locals := ls, stack := .ref T.heap.size :: rest, locked := none }) _
  jvm_step X₁.here [X₁.here.top, hexec, d3', Value.category]
  exact hsteps
/-- 'throw new E("text")': new; dup; ldc; invokespecial; athrow -/
theorem vx_throwS {cc : ByteArray} {pc : Nat} (hexec : p.tables.exec = Jvm.exec) (hb : c.code = cc) (hl : l.stackTraces = false) {own cls text : String} {names : List String} {ik is ic mc ms sa : Nat} {A : Nat → Prop}
    (hown : s.vm.findClass own = some m.cls) (hcls : Bundle.fit cls = true) (hnames : ∀ n ∈ names, Bundle.fit n = true)
    (hk : (Cond.classLink own ik cls).before args s = true) (hini : (Cond.initialized cls).before args s = true) (hstr : vk_R own is text sa s) (hat : ∀ w ∈ vx_atS own ic cls names, w.before args s = true)
    (hgood : ∀ w ∈ Cond.classLink own ik cls :: Cond.initialized cls :: vx_atS own ic cls names, vx_ot w = true)
    (hU : vx_Zq Bundle.tN "UNASSIGNED_STACK" Bundle.steD A s s.heap) (hN : vx_Zq Bundle.tN "SUPPRESSED_SENTINEL" Bundle.listD A s s.heap) (hS : va_S A s.heap H locs) (hsize : ls.size = c.maxLocals)
    (d0 : decode cc pc = .ok (.new ik, 3)) (d3 : decode cc (pc + 3) = .ok (.dup, 1)) (d4 : decode cc (pc + 4) = .ok (.ldc is, 2)) (d6 : decode cc (pc + 6) = .ok (.invokespecial ic, 3)) (d9 : decode cc (pc + 9) = .ok (.athrow, 1))
    (hout : ∀ x ∈ c.exceptionTable.toList, covers x (pc + 9) = false)
    (hRframes : names.length + 3 < R.frames) (hRlocals : (rest.map fun v => v.category).sum + (13 * (names.length + 1) + 43) ≤ R.locals) (hRcells : cells + 1 ≤ R.cells) (hRslots : slots + 6 ≤ R.slots) (hlocks : meth.locks = false)
    (hx : ∀ t : State, s.vm.Alike t.vm → H.size ≤ t.heap.size → (∀ q : Nat, q < H.size → t.heap[q]? = H[q]?) → XC cls s t)
    (hf : ∀ z ∈ locs, free z.base) (hc : cells + 1 ≤ mc) (hs : slots + 6 ≤ ms) :
    W p l e R s m args below meth c H locs cells slots (vx_MQ below Qc XC args s mc ms free) (F0 m pc ls rest) := by
  intro T hT X
  have htr : e.platform.stackTraces = false := (show e.platform.stackTraces = l.stackTraces by rw [X.admits.platform]).trans hl
  have Y := vx_rebase X (R' := { frames := R.frames, locals := R.locals, cells := 1, slots := 6 }) (Nat.le_refl _) (Nat.le_refl _) hRcells hRslots
  obtain ⟨s', hA⟩ : ∃ z, z = (T.setVm s.vm).setFrames (.invoking m args :: below) := ⟨_, rfl⟩
  rw [← hA] at Y
  have hvm : s'.vm = s.vm := by rw [hA]; rfl
  have hhp : s'.heap = H := by rw [hA]; exact hT
  have hW0 : s.WarmedH s'.vm := by rw [hvm]; exact State.WarmedH.refl s
  have hat' : ∀ w ∈ vx_atS own ic cls names, w.before args s' = true := fun w hw => vx_ot_at hW0 hvm.symm (hgood w (List.mem_cons_of_mem _ (List.mem_cons_of_mem _ hw))) (hat w hw)
  have hk' : (Cond.classLink own ik cls).before args s' = true := vx_ot_at hW0 hvm.symm (hgood _ List.mem_cons_self) hk
  have hini' : (Cond.initialized cls).before args s' = true := vx_ot_at hW0 hvm.symm (hgood _ (List.mem_cons_of_mem _ List.mem_cons_self)) hini
  have hU' : vx_Zq Bundle.tN "UNASSIGNED_STACK" Bundle.steD A s' s'.heap := by rw [hhp]; exact vx_Zq.moved hW0.alike (hU.kept hS.2.1)
  have hN' : vx_Zq Bundle.tN "SUPPRESSED_SENTINEL" Bundle.listD A s' s'.heap := by rw [hhp]; exact vx_Zq.moved hW0.alike (hN.kept hS.2.1)
  have h : ∀ w ∈ Bundle.ownAtoms own ic cls names, w.before args s' = true := vx_own hat' (vx_isRefq hU'.1) (vx_isRefq hN'.1) hU'.2.word hN'.2.word
  have hown' : s'.vm.findClass own = some m.cls := by rw [hvm]; exact hown
  have hins : (Cond.instantiable cls 6).before args s' = true := h _ (by simp [Bundle.ownAtoms])
  obtain ⟨vm₁, cX, kX, hfX, hkX, -, -, X₁, st1⟩ := Y.newCold hexec (own := own) (C := cls) (index := ik) (n := 6) hown' hk' hins hini'
    (g := F0 m pc ls rest) rfl (by rw [hb]; exact d0) (Nat.le_refl _) (Nat.le_refl _)
  generalize hT1 : (T.setVm vm₁).pushCell { cls := cX, slots := kX.instanceTypes.map defaultValue, vm := .none } = T1 at X₁ st1
  have hcat : (Value.ref T.heap.size).category = 1 := rfl
  have hcellA : T1.heap[T.heap.size]? = some (freshCell cX kX) := by rw [← hT1]; exact State.heap_pushCell_size _ _
  have d3' : decode c.code (pc + 3) = .ok (.dup, 1) := by rw [hb]; exact d3
  have d4' : decode c.code (pc + 4) = .ok (.ldc is, 2) := by rw [hb]; exact d4
  have hstr' : vk_R own is text sa s' := vk_R.warm hW0 hstr
  obtain ⟨U, hsteps, hrun, hend, hW, hsame, ce, hce, hO⟩ := X₁.ctorThrowS hexec htr (own := own) (cls := cls) (names := names) (ic := ic) hown' hcls hnames h (fun x hx => nomatch hx) hfX hkX hcellA (by rw [hhp, hT]; exact Nat.le_refl _) (msg := .ref sa) rfl
    (g := { method := m, pc := pc + 6, locals := ls, stack := .ref sa :: .ref T.heap.size :: .ref T.heap.size :: rest, locked := none }) rfl hsize rfl rfl (rest := rest) rfl
    (by rw [hb]; exact d6) (by rw [hb]; exact d9) hout hRframes (by simp only [List.map_cons, List.sum_cons, hcat]; omega) hlocks
  obtain ⟨f1, f2⟩ := vx_frame hsame
  rw [hhp] at f1 f2
  have hWs : s.WarmedH U.vm := State.WarmedH.trans hW0 hW
  have hcl : s.vm.findClass cls = some ce.cls := by
    have h9 := hO.cls
    rw [hvm] at h9
    exact h9
  have hall : s.sameButNew ({ U with vm := s.vm } : State) locs mc ms := by
    subst hA
    obtain ⟨e1, e2⟩ := hsame
    rw [State.setFrames_setFrames] at e1
    have h2 : (T.setVm s.vm).sameButNew ({ U with vm := s.vm } : State) [] (0 + 1) (0 + 6) := ⟨e1, e2⟩
    have h3 := X.same.trans h2
    rw [List.append_nil] at h3
    exact h3.mono hc hs
  refine ⟨U, ?_, .threw T.heap.size, hrun, hend, Or.inr ⟨T.heap.size, rfl, cls, ce, locs, hx U hWs.alike f1 (fun q hq => f2 q hq (fun z hz => nomatch hz)), hce, hO.vm, hcl, hWs, hall, hf⟩⟩
  refine st1 _ ?_
  show Steps p.tables e below (T1.setTop { method := m, pc := pc + 3, locals := ls, stack := .ref T.heap.size :: rest, locked := none }) _
  jvm_step X₁.here [X₁.here.top, hexec, d3', Value.category]
  exact X₁.ldcString hexec (own := own) (text := text) (index := is) (a := sa) hown' hstr'.1 hstr'.2
    (g := { method := m, pc := pc + 4, locals := ls, stack := .ref T.heap.size :: .ref T.heap.size :: rest, locked := none }) rfl d4' _ hsteps
/-- 'throw new E("text")', the text by a wide index -/
theorem vx_throwSW {cc : ByteArray} {pc : Nat} (hexec : p.tables.exec = Jvm.exec) (hb : c.code = cc) (hl : l.stackTraces = false) {own cls text : String} {names : List String} {ik is ic mc ms sa : Nat} {A : Nat → Prop}
    (hown : s.vm.findClass own = some m.cls) (hcls : Bundle.fit cls = true) (hnames : ∀ n ∈ names, Bundle.fit n = true)
    (hk : (Cond.classLink own ik cls).before args s = true) (hini : (Cond.initialized cls).before args s = true) (hstr : vk_R own is text sa s) (hat : ∀ w ∈ vx_atS own ic cls names, w.before args s = true)
    (hgood : ∀ w ∈ Cond.classLink own ik cls :: Cond.initialized cls :: vx_atS own ic cls names, vx_ot w = true)
    (hU : vx_Zq Bundle.tN "UNASSIGNED_STACK" Bundle.steD A s s.heap) (hN : vx_Zq Bundle.tN "SUPPRESSED_SENTINEL" Bundle.listD A s s.heap) (hS : va_S A s.heap H locs) (hsize : ls.size = c.maxLocals)
    (d0 : decode cc pc = .ok (.new ik, 3)) (d3 : decode cc (pc + 3) = .ok (.dup, 1)) (d4 : decode cc (pc + 4) = .ok (.ldc_w is, 3)) (d7 : decode cc (pc + 7) = .ok (.invokespecial ic, 3)) (d10 : decode cc (pc + 10) = .ok (.athrow, 1))
    (hout : ∀ x ∈ c.exceptionTable.toList, covers x (pc + 10) = false)
    (hRframes : names.length + 3 < R.frames) (hRlocals : (rest.map fun v => v.category).sum + (13 * (names.length + 1) + 43) ≤ R.locals) (hRcells : cells + 1 ≤ R.cells) (hRslots : slots + 6 ≤ R.slots) (hlocks : meth.locks = false)
    (hx : ∀ t : State, s.vm.Alike t.vm → H.size ≤ t.heap.size → (∀ q : Nat, q < H.size → t.heap[q]? = H[q]?) → XC cls s t)
    (hf : ∀ z ∈ locs, free z.base) (hc : cells + 1 ≤ mc) (hs : slots + 6 ≤ ms) :
    W p l e R s m args below meth c H locs cells slots (vx_MQ below Qc XC args s mc ms free) (F0 m pc ls rest) := by
  intro T hT X
  have htr : e.platform.stackTraces = false := (show e.platform.stackTraces = l.stackTraces by rw [X.admits.platform]).trans hl
  have Y := vx_rebase X (R' := { frames := R.frames, locals := R.locals, cells := 1, slots := 6 }) (Nat.le_refl _) (Nat.le_refl _) hRcells hRslots
  obtain ⟨s', hA⟩ : ∃ z, z = (T.setVm s.vm).setFrames (.invoking m args :: below) := ⟨_, rfl⟩
  rw [← hA] at Y
  have hvm : s'.vm = s.vm := by rw [hA]; rfl
  have hhp : s'.heap = H := by rw [hA]; exact hT
  have hW0 : s.WarmedH s'.vm := by rw [hvm]; exact State.WarmedH.refl s
  have hat' : ∀ w ∈ vx_atS own ic cls names, w.before args s' = true := fun w hw => vx_ot_at hW0 hvm.symm (hgood w (List.mem_cons_of_mem _ (List.mem_cons_of_mem _ hw))) (hat w hw)
  have hk' : (Cond.classLink own ik cls).before args s' = true := vx_ot_at hW0 hvm.symm (hgood _ List.mem_cons_self) hk
  have hini' : (Cond.initialized cls).before args s' = true := vx_ot_at hW0 hvm.symm (hgood _ (List.mem_cons_of_mem _ List.mem_cons_self)) hini
  have hU' : vx_Zq Bundle.tN "UNASSIGNED_STACK" Bundle.steD A s' s'.heap := by rw [hhp]; exact vx_Zq.moved hW0.alike (hU.kept hS.2.1)
  have hN' : vx_Zq Bundle.tN "SUPPRESSED_SENTINEL" Bundle.listD A s' s'.heap := by rw [hhp]; exact vx_Zq.moved hW0.alike (hN.kept hS.2.1)
  have h : ∀ w ∈ Bundle.ownAtoms own ic cls names, w.before args s' = true := vx_own hat' (vx_isRefq hU'.1) (vx_isRefq hN'.1) hU'.2.word hN'.2.word
  have hown' : s'.vm.findClass own = some m.cls := by rw [hvm]; exact hown
  have hins : (Cond.instantiable cls 6).before args s' = true := h _ (by simp [Bundle.ownAtoms])
  obtain ⟨vm₁, cX, kX, hfX, hkX, -, -, X₁, st1⟩ := Y.newCold hexec (own := own) (C := cls) (index := ik) (n := 6) hown' hk' hins hini'
    (g := F0 m pc ls rest) rfl (by rw [hb]; exact d0) (Nat.le_refl _) (Nat.le_refl _)
  generalize hT1 : (T.setVm vm₁).pushCell { cls := cX, slots := kX.instanceTypes.map defaultValue, vm := .none } = T1 at X₁ st1
  have hcat : (Value.ref T.heap.size).category = 1 := rfl
  have hcellA : T1.heap[T.heap.size]? = some (freshCell cX kX) := by rw [← hT1]; exact State.heap_pushCell_size _ _
  have d3' : decode c.code (pc + 3) = .ok (.dup, 1) := by rw [hb]; exact d3
  have d4' : decode c.code (pc + 4) = .ok (.ldc_w is, 3) := by rw [hb]; exact d4
  have hstr' : vk_R own is text sa s' := vk_R.warm hW0 hstr
  obtain ⟨U, hsteps, hrun, hend, hW, hsame, ce, hce, hO⟩ := X₁.ctorThrowS hexec htr (own := own) (cls := cls) (names := names) (ic := ic) hown' hcls hnames h (fun x hx => nomatch hx) hfX hkX hcellA (by rw [hhp, hT]; exact Nat.le_refl _) (msg := .ref sa) rfl
    (g := { method := m, pc := pc + 7, locals := ls, stack := .ref sa :: .ref T.heap.size :: .ref T.heap.size :: rest, locked := none }) rfl hsize rfl rfl (rest := rest) rfl
    (by rw [hb]; exact d7) (by rw [hb]; exact d10) hout hRframes (by simp only [List.map_cons, List.sum_cons, hcat]; omega) hlocks
  obtain ⟨f1, f2⟩ := vx_frame hsame
  rw [hhp] at f1 f2
  have hWs : s.WarmedH U.vm := State.WarmedH.trans hW0 hW
  have hcl : s.vm.findClass cls = some ce.cls := by
    have h9 := hO.cls
    rw [hvm] at h9
    exact h9
  have hall : s.sameButNew ({ U with vm := s.vm } : State) locs mc ms := by
    subst hA
    obtain ⟨e1, e2⟩ := hsame
    rw [State.setFrames_setFrames] at e1
    have h2 : (T.setVm s.vm).sameButNew ({ U with vm := s.vm } : State) [] (0 + 1) (0 + 6) := ⟨e1, e2⟩
    have h3 := X.same.trans h2
    rw [List.append_nil] at h3
    exact h3.mono hc hs
  refine ⟨U, ?_, .threw T.heap.size, hrun, hend, Or.inr ⟨T.heap.size, rfl, cls, ce, locs, hx U hWs.alike f1 (fun q hq => f2 q hq (fun z hz => nomatch hz)), hce, hO.vm, hcl, hWs, hall, hf⟩⟩
  refine st1 _ ?_
  show Steps p.tables e below (T1.setTop { method := m, pc := pc + 3, locals := ls, stack := .ref T.heap.size :: rest, locked := none }) _
  jvm_step X₁.here [X₁.here.top, hexec, d3', Value.category]
  exact X₁.ldcStringW hexec (own := own) (text := text) (index := is) (a := sa) hown' hstr'.1 hstr'.2
    (g := { method := m, pc := pc + 4, locals := ls, stack := .ref T.heap.size :: .ref T.heap.size :: rest, locked := none }) rfl d4' _ hsteps
end Ends
section Bodies
variable {l : Launch}
theorem vx_ofW {y : MethodName} {ws ws' : List Cond} {rm : Room} {Pc : Array Value → State → Prop} {Qc : Array Value → State → Outcome → State → Prop} {XC : String → State → State → Prop} {mc ms : Nat} {free : Addr → Prop} {cc : ByteArray} {maxL : Nat} {ret : Option FieldType}
    (hy : plainName y.cls = true) (hw : ws = Cond.code y cc maxL ret :: ws')
    (body : ∀ p e s m args below meth c s₁, BodyLoose p l y (headSpec ws rm) cc maxL ret e s m args below meth c s₁ → c.maxLocals = maxL → (∀ x ∈ c.exceptionTable.toList, False) → Pc args s →
      W p l e (headSpec ws rm).room s m args below meth c s.heap [] 0 0 (vx_MQ below Qc XC args s mc ms free) (entryFrame m args maxL)) : vx_Met l y ws rm Pc Qc XC mc ms free := by
  refine MetFree.of_bodyS (code := cc) (maxLocals := maxL) (ret := ret) hy ?_ ?_
  · intro args s m h hn
    obtain ⟨meth, c, h1, h2, h3, h4, h5, h6, -, -⟩ := Cond.code_spec hn (atoms_spec (ws := ws) h _ (by rw [hw]; exact List.mem_cons_self))
    exact ⟨meth, c, h1, h2, h3, h4, h5, h6⟩
  · intro p e s m args below meth c s₁ B hml hP _
    have hh0 : s₁.heap = s.heap := by rw [B.state]; rfl
    have ht : ∀ x ∈ c.exceptionTable.toList, False := by
      obtain ⟨meth9, c9, h1, h2, -, -, -, -, h7, -⟩ := Cond.code_spec B.named (atoms_spec (ws := ws) B.pre _ (by rw [hw]; exact List.mem_cons_self))
      cases Option.some.inj (h1.symm.trans B.method)
      cases Option.some.inj (h2.symm.trans (Stand.of_body B).code)
      intro x hx
      rw [Array.isEmpty_iff.mp h7] at hx
      cases hx
    obtain ⟨t, a1, o, b1, b2, b3⟩ := body p e s m args below meth c s₁ B hml ht hP s₁ hh0 (Stand.of_body B)
    exact ⟨t, o, a1, b1, b2, b3⟩
/-- the table of a body with handlers -/
theorem vx_table {p : Program} {x y : MethodName} {S : Spec} {cc bytes : ByteArray} {maxL maxL' : Nat} {ret ret' : Option FieldType} {e : Env} {s s₁ : State} {m : MethodId} {args : Array Value} {below : List Frame} {meth : Method} {c : Code} {hh : List (Nat × Nat × Nat × Nat)}
    (B : BodyLoose p l y S cc maxL ret e s m args below meth c s₁) (h : (Cond.codeWith y bytes maxL' ret' hh).before args s = true) : c.exceptionTable.toList = tableOf hh := by
  obtain ⟨m9, meth9, c9, hn9, h1, h2, -, -, h6, -⟩ := Cond.codeWith_spec h
  cases Option.some.inj (hn9.symm.trans B.named)
  cases Option.some.inj (h1.symm.trans B.method)
  cases Option.some.inj (h2.symm.trans (Stand.of_body B).code)
  rw [← h6, table_eq]
end Bodies
end VXA
/-! ===== END ===== -/
/-! ===== BEGIN a static call of a method with an exception table ===== -/
section VXS
variable {p : Program} {l : Launch} {e : Env} {R : Room} {s : State} {m : MethodId} {args : Array Value} {below : List Frame} {meth : Method} {c : Code} {T : State} {H : Heap} {locs : List Loc} {cells slots : Nat}
abbrev vx_CSW (R : Room) (s : State) (args : Array Value) (own : String) (index : Nat) (y : MethodName) (bytes : ByteArray) (maxL : Nat) (ret : Option FieldType) (hh : List (Nat × Nat × Nat × Nat)) (ws : List Cond) (rm : Room) (mc ms n : Nat) : Prop :=
  (rm.cells = mc ∧ rm.slots = ms ∧ rm.frames + 1 ≤ R.frames ∧ 8 + (maxL + 11) + rm.locals ≤ R.locals ∧ (∀ w ∈ ws, ∀ (a' : Array Value) (U : State), s.WarmedH U.vm → w.before a' U = true) ∧ Cond.codeWith y bytes maxL ret hh ∈ ws) ∧
  (Cond.codeWith y bytes maxL ret hh).before args s = true ∧ (Cond.initialized y.cls).before args s = true ∧ (y.cls ≠ "java/lang/invoke/MethodHandle" ∧ y.cls ≠ "java/lang/invoke/VarHandle") ∧
  (∀ sig, parseMethodDescriptor y.desc = some sig → n = sig.parameters.length) ∧ (Cond.methodLink own index y).before args s = true ∧ (Cond.static y).before args s = true
theorem vx_cwSW {own : String} {index maxL mc ms : Nat} {y : MethodName} {bytes : ByteArray} {ret : Option FieldType} {hh : List (Nat × Nat × Nat × Nat)} {Ts ws ws' : List Cond} {rm : Room} (n : Nat) (ht : ∀ w ∈ Ts, w.before args s = true) (hT : GoodIn Ts (va_wsS own index y ws)) (hw : ws = Cond.codeWith y bytes maxL ret hh :: ws') (hrc : rm.cells = mc) (hrs : rm.slots = ms)
    (hd : y.cls ≠ "java/lang/invoke/MethodHandle" ∧ y.cls ≠ "java/lang/invoke/VarHandle" ∧ (parseMethodDescriptor y.desc).map (fun d => d.parameters.length) = some n) (hR : rm.frames + 1 ≤ R.frames ∧ 8 + (maxL + 11) + rm.locals ≤ R.locals) :
    vx_CSW R s args own index y bytes maxL ret hh ws rm mc ms n := by
  have ok : ∀ w ∈ va_wsS own index y ws, w.before args s = true := fun w h => ht w (hT w h).1
  have hG : GoodIn Ts ws := fun w h => hT w (by unfold va_wsS; exact List.mem_append_right _ h)
  have hc : Cond.codeWith y bytes maxL ret hh ∈ ws := by rw [hw]; exact List.mem_cons_self
  refine ⟨⟨hrc, hrs, hR.1, hR.2, pay_in ht hG, hc⟩, ht _ (hG _ hc).1, ok _ (by simp [va_wsS]), ⟨hd.1, hd.2.1⟩, fun sig h => ?_, ok _ (by simp [va_wsS]), ok _ (by simp [va_wsS])⟩
  have h2 := hd.2.2
  rw [h] at h2
  exact (Option.some.inj h2).symm
theorem vx_callSW (X : Stand p l e R s m args below meth c T locs cells slots) (hexec : p.tables.exec = Jvm.exec) {own : String} {index : Nat} {y : MethodName} {bytes : ByteArray} {maxL : Nat} {ret : Option FieldType} {hh : List (Nat × Nat × Nat × Nat)}
    (hown : s.vm.findClass own = some m.cls) (hlink : (Cond.methodLink own index y).before args s = true) (hstat : (Cond.static y).before args s = true) (hinit : (Cond.initialized y.cls).before args s = true)
    (hcode : (Cond.codeWith y bytes maxL ret hh).before args s = true) (hy : y.cls ≠ "java/lang/invoke/MethodHandle" ∧ y.cls ≠ "java/lang/invoke/VarHandle")
    {W9 : Nat} {Pre : Pt → Array Value → Prop} {Post : Pt → Array Value → Option Value → Pt → Prop} (hK : Back l R p e below s args y 3 W9 Pre Post)
    {g : JFrame} (hg : g.method = m) (hsize : g.locals.size = c.maxLocals) {argsL rest : List Value} (hlen : ∀ sig, parseMethodDescriptor y.desc = some sig → argsL.length = sig.parameters.length)
    (hstack : g.stack = argsL.reverse ++ rest) (hW : 2 * g.monitorRoom + (rest.map fun v => v.category).sum ≤ W9) (hdg : decode c.code g.pc = .ok (.invokestatic index, 3))
    (hpre : ∀ vm₁, s.WarmedH vm₁ → Pre ⟨T.setVm vm₁, locs, cells, slots⟩ argsL.toArray) :
    ∃ (v : Option Value) (vm₁ : Vm) (B : Pt), s.WarmedH vm₁ ∧ Stand p l e R s m args below meth c B.U B.locs B.cells B.slots ∧ Post ⟨T.setVm vm₁, locs, cells, slots⟩ argsL.toArray v B ∧
      ∀ target, Steps p.tables e below (B.U.setTop { g with pc := g.pc + 3, stack := v.toList ++ rest }) target → Steps p.tables e below (T.setTop g) target := by
  obtain ⟨mk, methM, cM, hnamed, hmethM, -, -, -, -, -, -, hsigM⟩ := Cond.codeWith_spec hcode
  have hstatic : methM.isStatic = true := Cond.static_spec hnamed hmethM hstat
  obtain ⟨kP, hkP, -⟩ := className_of_methodNamed hnamed
  have hinitP : kP.init = .initialized := Cond.initialized_spec (findClass_of_methodNamed hnamed) hkP hinit
  obtain ⟨vm₁, X₁, hstep₁⟩ := X.invokestatic hexec hown hlink hnamed hmethM hstatic hkP hinitP hy (g := g) hg (argsL := argsL) (rest := rest) (hlen _ hsigM) hstack hdg
  obtain ⟨v, B, X', hpost, hsteps⟩ := hK m meth c ⟨T.setVm vm₁, locs, cells, slots⟩ { g with stack := rest } (.invokestatic index) mk argsL.toArray X₁ hg hsize hdg hW (X₁.named hnamed) (hpre vm₁ X₁.warmed)
  exact ⟨v, vm₁, B, X₁.warmed, X', hpost, fun target h => hstep₁ _ fun acts => by rw [doInvoke_state]; exact hsteps.trans h⟩
theorem vx_runSW {y : MethodName} {bytes cc : ByteArray} {maxL nL mc ms n index : Nat} {ret : Option FieldType} {hh : List (Nat × Nat × Nat × Nat)} {ws : List Cond} {rm : Room} {Pc : Array Value → State → Prop} {Qc : Array Value → State → Outcome → State → Prop} {free : Addr → Prop} {Ts : List Cond} {own : String} {As rest : List Value} {g : JFrame}
    (S : CallFix p m c cc nL s args Ts own) (hM : Met l y ws rm Pc Qc mc ms free) (cw : vx_CSW R s args own index y bytes maxL ret hh ws rm mc ms n) (hp : PreS s H Pc As)
    (hg : g.method = m) (hn : As.length = n) (hsize : g.locals.size = nL) (hstack : g.stack = As.reverse ++ rest) (hW : 2 * g.monitorRoom + (rest.map fun v => v.category).sum ≤ 8) (hdg : decode cc g.pc = .ok (.invokestatic index, 3)) (hf : cells + mc ≤ R.cells ∧ slots + ms ≤ R.slots) :
    va_Run p l e R s m args below meth c H locs cells slots mc ms g rest (Qc As.toArray) (free) := by
  obtain ⟨⟨hrc, hrs, hfr, hlo, hws, hcw⟩, hcode, hini, hy, hlen, hl, hstt⟩ := cw
  have hK : Back l R p e below s args y 3 8 (PreOf R mc ms Pc) (PostOf Qc mc ms free) := va_backW (hh := hh) (bytes := bytes) (maxL := maxL) (ret := ret) hM hp.1 hrc hrs hfr hlo hws hcw (fun a' U hW => word_at hW (Or.inl (by first | rfl | simp [Cond.onTables, Cond.keeps, Cond.steady])) hini)
  obtain ⟨hx, hb, hml, ho, -⟩ := S
  intro T hT X
  obtain ⟨v, vm₁, ⟨U', l2, c2, s2⟩, hW₁, X', ⟨g', mk, t, L, e1, e2, hq, h1, hL, h2, h3⟩, st⟩ := vx_callSW X hx (hh := hh) (bytes := bytes) (maxL := maxL) (ret := ret) ho hl hstt hini hcode hy hK hg (hsize.trans hml.symm) (argsL := As) (rest := rest) (fun sig h => hn.trans (hlen sig h)) hstack hW (by rw [hb]; exact hdg)
    (fun vm₁ hW₁ => ⟨hf.1, hf.2, hp.2 (T.setVm vm₁) hT hW₁⟩)
  dsimp only [Pt.U, Pt.locs, Pt.cells, Pt.slots] at X' e1 e2 h1 h2 h3 st
  subst h1; subst h2; subst h3
  exact ⟨v, (T.setVm vm₁).calling g' mk As.toArray, t, U', L, hT, X', hL, e1, e2, hq, st⟩
/-- not caught here, past rows that name other classes: it goes on to the caller -/
theorem vx_outP {p : Program} {l : Launch} {e : Env} {R : Room} {s : State} {m : MethodId} {args : Array Value} {below : List Frame} {meth : Method} {c : Code} {H : Heap} {locs : List Loc} {cells slots : Nat} {free : Addr → Prop} {ls : Array Slot} {rest : List Value} {Qc : Array Value → State → Outcome → State → Prop} {XC : String → State → State → Prop}
    {pc : Nat} {own E : String} {ce : Cell} {q : Addr} {mc ms : Nat} (hown : s.vm.findClass own = some m.cls) (hlocks : meth.locks = false)
    (hpass : ∀ z ∈ c.exceptionTable.toList, covers z pc = false ∨ (z.catchType ≠ 0 ∧ ∃ nm : String, (Cond.classLink own z.catchType nm).before args s = true ∧ va_Nc E nm s)) (hcell : H[q]? = some ce) (hv : ce.vm = .none) (hcl : s.vm.findClass E = some ce.cls)
    (hx : ∀ t : State, t.heap = H → s.vm.Alike t.vm → XC E s t) (hf : ∀ z ∈ locs, free z.base) (hc : cells ≤ mc) (hs : slots ≤ ms) :
    vx_W p l e R s m args below meth c H locs cells slots (vx_MQ below Qc XC args s mc ms free) (F0 m pc ls rest) q := by
  intro T hT X
  have hpl : e.platform.magicAccessors = ({} : Platform).magicAccessors := by rw [X.admits.platform]
  obtain ⟨vm', hW', X', st⟩ := X.outThrough hlocks q (g := F0 m pc ls rest) rfl rfl rfl (cell := ce) (by rw [hT]; exact hcell) (by rw [hv]; rfl)
    (by obtain ⟨k9, h9, -⟩ := Vm.findClass_spec hcl; exact ⟨k9, h9⟩) (fun z hz => by
      rcases hpass z hz with h | ⟨hz0, nm, hl1, hn1⟩
      · exact Or.inl h
      · obtain ⟨c6, hc6, hcl6⟩ := Cond.classLink_spec hown hl1 e.platform hpl
        obtain ⟨a8, b8, h1, h2, h3⟩ := hn1
        cases Option.some.inj (h1.symm.trans hcl)
        cases Option.some.inj (h2.symm.trans hc6)
        exact Or.inr ⟨hz0, _, hcl6, h3⟩)
  obtain ⟨g₀, hfr⟩ := X'.frames_eq
  have hcell9 : ((T.setVm vm').setFrames (.throwing q :: below)).heap[q]? = some ce := by
    show T.heap[q]? = some ce
    rw [hT]; exact hcell
  have hend : Ended ((T.setVm vm').setFrames (.throwing q :: below)) below (.threw q) := State.frames_setFrames _ (State.cur_lt_of_frames hfr)
  refine ⟨(T.setVm vm').setFrames (.throwing q :: below), ?_, .threw q, X'.here.running, hend, Or.inr ⟨q, rfl, E, ce, locs, hx _ hT (X'.ends _).1.alike, hcell9, hv, hcl, (X'.ends _).1, (X'.ends _).2.mono hc hs, hf⟩⟩
  rw [X.pushThrowing_eq]
  exact st
/-- a thing of a world lies in the heap -/
theorem vx_lt {D : va_G} {cl : List vw_C} {ws : va_W} {H1 : Heap} (h : va_P D cl ws H1) {k : Nat} {q : Nat × va_E} (hk : ws[k]? = some q) : q.1 < H1.size := (h k q hk).lt
end VXS
/-! ===== END ===== -/
/-! ===== BEGIN methods with a table of their own: called by a name, returning or throwing ===== -/
section VXH
/-! vx_backW, vx_callVX, vx_callSX, vx_callVW, vx_runVW, vx_runVX, vx_runSX, vx_ofWH follow the same proofs as their sisters above (Free/Laws.lean, Shelf42/LK1.lean); vx_outP calls Shelf42/NT130.lean (outThrough). -/
section
variable {l : Launch} {R : Room} {p : Program} {e : Env} {below : List Frame} {s : State} {sargs : Array Value} {y : MethodName} {len W9 : Nat}
theorem vx_backW {ws : List Cond} {rm : Room} {Pc : Array Value → State → Prop} {Qc : Array Value → State → Outcome → State → Prop} {XC : String → State → State → Prop} {mc ms : Nat} {free : Addr → Prop} {bytes : ByteArray} {maxL : Nat} {ret : Option FieldType} {hh : List (Nat × Nat × Nat × Nat)}
    (hM : vx_Met l y ws rm Pc Qc XC mc ms free) (hblind : FrameBlind Pc) (hrc : rm.cells = mc) (hrs : rm.slots = ms)
    (hframes : rm.frames + 1 ≤ R.frames) (hlocals : W9 + (maxL + 11) + rm.locals ≤ R.locals)
    (hws : ∀ w ∈ ws, ∀ a' U, s.WarmedH U.vm → w.before a' U = true) (hcode : Cond.codeWith y bytes maxL ret hh ∈ ws) (hinit : ∀ a' U, s.WarmedH U.vm → (Cond.initialized y.cls).before a' U = true) :
    vx_Back l R p e below s sargs y len W9 (PreOf R mc ms Pc) (PostOf Qc mc ms free) (vx_Post XC mc ms free) := by
  intro m meth c A g ig mk a X hg hsize hdg hW hn hp
  have h1 : (headSpec ws rm).pre.before a A.U = true := atoms_intro fun w hw => hws w hw _ _ X.warmed
  have h2 : (Cond.codeWith y bytes maxL ret hh).before a A.U = true := hws _ hcode _ _ X.warmed
  have h3 : (Cond.initialized y.cls).before a A.U = true := hinit _ _ X.warmed
  have h4 : A.cells + (headSpec ws rm).room.cells ≤ R.cells := by rw [show (headSpec ws rm).room.cells = mc from hrc]; exact hp.1
  have h5 : A.slots + (headSpec ws rm).room.slots ≤ R.slots := by rw [show (headSpec ws rm).room.slots = ms from hrs]; exact hp.2.1
  have hPc : Pc a (A.U.calling g mk a) := hblind _ _ _ _ hp.2.2
  obtain ⟨U, Ls, c0, s0⟩ := A
  dsimp only [Pt.U, Pt.locs, Pt.cells, Pt.slots] at h1 h2 h3 h4 h5 X hn hPc ⊢
  obtain ⟨m9, methY, cY, hn9, hmY, hcY, -, hlY, -⟩ := Cond.codeWith_spec h2
  cases Option.some.inj (hn9.symm.trans hn)
  obtain ⟨kY, hkY, -⟩ := className_of_methodNamed hn
  have hinitY : kY.init = .initialized := Cond.initialized_spec (findClass_of_methodNamed hn) hkY h3
  have h : At U g.method c below := by rw [hg]; exact X.here
  have hlocals9 : W9 + (maxL + 11) + (headSpec ws rm).room.locals ≤ R.locals := hlocals
  have happ : (headSpec ws rm).appliesLoose y e.platform (U.calling g mk a) = true :=
    Spec.appliesLoose_calling (g := g) h hdg hn hkY hinitY
      (X.room_calling (g := g) (R' := (headSpec ws rm).room) hsize hmY hcY hframes (by rw [hlY]; omega) h4 h5) h1
  obtain ⟨mid, hmid⟩ := h.above
  have hfr : (U.setTop g).frames = (.java g :: mid) ++ below := by rw [State.frames_setTop' g h.top, hmid]; rfl
  obtain ⟨o, s₂, hsteps, -, hend, hq⟩ := Steps.callFree hM p X.admits X.cas X.clock (acts := []) hfr happ hPc trivial
  have hq' : vx_Q Qc XC mc ms free a (U.calling g mk a) o s₂ := hq
  rw [State.frames_setTop' g h.top] at hend
  obtain ⟨g₀, hg0⟩ := Option.isSome_iff_exists.mp h.top
  obtain ⟨r, hr⟩ := State.topJava?_eq_some.mp hg0
  have hr' : (({ U with heap := s₂.heap, slotsUsed := s₂.slotsUsed } : State).setVm s₂.vm).frames = .java g₀ :: r := hr
  rcases hq' with ⟨hqc, L, hfe, hL⟩ | ⟨q, rfl, E, ce, L, hx, hce, hcv, hcl, hW₂, hsm, hL⟩
  · obtain ⟨⟨v, rfl⟩, hW₂, e2, q2, q3, q4, q5, q6⟩ := id hfe
    have e3 : s₂ = ({ (U.calling g mk a).setFrames s₂.frames with heap := s₂.heap, slotsUsed := s₂.slotsUsed } : State).setVm s₂.vm := by
      have : s₂ = ({ s₂ with vm := (U.calling g mk a).vm } : State).setVm s₂.vm := rfl
      rw [e2] at this
      exact this
    obtain ⟨c₂, i₂, len₂, hc₂, hd₂, hf₂⟩ := hend
    have hW' : U.WarmedH s₂.vm := hW₂
    have hcc : c₂ = c := by
      have h1 : s₂.code? g.method = U.code? g.method := by
        rw [State.code?_eq, State.code?_eq, hW'.alike.method?]
      exact Option.some.inj (hc₂.symm.trans (h1.trans h.code))
    subst hcc
    have hlen : len₂ = len := by rw [hdg] at hd₂; cases hd₂; rfl
    subst hlen
    have hs₂ : s₂ = (({ U with heap := s₂.heap, slotsUsed := s₂.slotsUsed } : State).setVm s₂.vm).setTop { g with pc := g.pc + len₂, stack := v.toList ++ g.stack } := by
      refine e3.trans ?_
      rw [hf₂, State.calling_eq h.top, State.setFrames_setFrames, State.setTop_of_frames _ hr', hr]
      rfl
    have hsame : U.sameButNew ({ U with heap := s₂.heap, slotsUsed := s₂.slotsUsed } : State) L mc ms := by
      refine ⟨?_, q2, q3, q4, q5, q6⟩
      obtain ⟨t, ht, -⟩ := State.frames_cons hr
      show ({ U with heap := s₂.heap, slotsUsed := s₂.slotsUsed } : State) = { U.setFrames U.frames with heap := s₂.heap, slotsUsed := s₂.slotsUsed }
      rw [State.setFrames_self ht]
    subst hg
    refine Or.inl ⟨v, ⟨(({ U with heap := s₂.heap, slotsUsed := s₂.slotsUsed } : State).setVm s₂.vm), Ls ++ L, c0 + mc, s0 + ms⟩,
      ⟨X.admits, X.cas, X.clock, X.frames, X.room, X.hears, X.method, X.code, (X.here.setHeapUsed s₂.heap s₂.slotsUsed).setVm hW'.alike, X.tail, State.WarmedH.trans X.warmed hW', X.limits, X.bytes, X.same.trans (hsame.setVm s.vm)⟩,
      ⟨g, mk, s₂, L, rfl, rfl, hqc, rfl, hL, rfl, rfl⟩, ?_⟩
    show Steps p.tables e below _ ((({ U with heap := s₂.heap, slotsUsed := s₂.slotsUsed } : State).setVm s₂.vm).setTop { g with pc := g.pc + len₂, stack := v.toList ++ g.stack })
    rw [← hs₂]
    exact hsteps
  · obtain ⟨e2, q2, q3, q4, q5, q6⟩ := id hsm
    have e3 : s₂ = ({ (U.calling g mk a).setFrames s₂.frames with heap := s₂.heap, slotsUsed := s₂.slotsUsed } : State).setVm s₂.vm := by
      have : s₂ = ({ s₂ with vm := (U.calling g mk a).vm } : State).setVm s₂.vm := rfl
      rw [e2] at this
      exact this
    have hf₂ : s₂.frames = .throwing q :: .java g :: U.frames.tail := hend
    have hW' : U.WarmedH s₂.vm := hW₂
    have hs₂ : s₂ = ((({ U with heap := s₂.heap, slotsUsed := s₂.slotsUsed } : State).setVm s₂.vm).setTop g).pushFrame (.throwing q) := by
      refine e3.trans ?_
      rw [hf₂, State.calling_eq h.top, State.setFrames_setFrames, State.pushFrame, State.frames_setTop _ hr', State.setTop_of_frames _ hr', State.setFrames_setFrames, hr]
      rfl
    have hsame : U.sameButNew ({ U with heap := s₂.heap, slotsUsed := s₂.slotsUsed } : State) L mc ms := by
      refine ⟨?_, q2, q3, q4, q5, q6⟩
      obtain ⟨t, ht, -⟩ := State.frames_cons hr
      show ({ U with heap := s₂.heap, slotsUsed := s₂.slotsUsed } : State) = { U.setFrames U.frames with heap := s₂.heap, slotsUsed := s₂.slotsUsed }
      rw [State.setFrames_self ht]
    subst hg
    refine Or.inr ⟨q, ⟨(({ U with heap := s₂.heap, slotsUsed := s₂.slotsUsed } : State).setVm s₂.vm), Ls ++ L, c0 + mc, s0 + ms⟩,
      ⟨X.admits, X.cas, X.clock, X.frames, X.room, X.hears, X.method, X.code, (X.here.setHeapUsed s₂.heap s₂.slotsUsed).setVm hW'.alike, X.tail, State.WarmedH.trans X.warmed hW', X.limits, X.bytes, X.same.trans (hsame.setVm s.vm)⟩,
      ⟨g, mk, s₂, L, E, ce, rfl, rfl, hx, hce, hcv, hcl, rfl, hL, rfl, rfl⟩, ?_⟩
    show Steps p.tables e below _ (((({ U with heap := s₂.heap, slotsUsed := s₂.slotsUsed } : State).setVm s₂.vm).setTop g).pushFrame (.throwing q))
    rw [← hs₂]
    exact hsteps
end
variable {p : Program} {l : Launch} {e : Env} {R : Room} {s : State} {m : MethodId} {args : Array Value} {below : List Frame} {meth : Method} {c : Code} {T : State} {H : Heap} {locs : List Loc} {cells slots : Nat}
theorem vx_callVX (X : Stand p l e R s m args below meth c T locs cells slots) (hexec : p.tables.exec = Jvm.exec) {own C : String} {index : Nat} {y : MethodName} {bytes : ByteArray} {maxL : Nat} {ret : Option FieldType} {hh : List (Nat × Nat × Nat × Nat)}
    (hown : s.vm.findClass own = some m.cls) (hlink : (Cond.methodLink own index y).before args s = true) (hinst : (Cond.instanceMethod y).before args s = true) (hsel : (Cond.selects C y y).before args s = true)
    (hcode : (Cond.codeWith y bytes maxL ret hh).before args s = true) (hy : y.cls ≠ "java/lang/invoke/MethodHandle" ∧ y.cls ≠ "java/lang/invoke/VarHandle")
    {W9 : Nat} {Pre : Pt → Array Value → Prop} {Post : Pt → Array Value → Option Value → Pt → Prop} {PostX : Pt → Array Value → Addr → Pt → Prop} (hK : vx_Back l R p e below s args y 3 W9 Pre Post PostX)
    {b : Addr} {cellB : Cell} (hcell : T.heap[b]? = some cellB) (hobj : cellB.vm.isStatics = false) (hcls : s.vm.findClass C = some cellB.cls)
    {g : JFrame} (hg : g.method = m) (hsize : g.locals.size = c.maxLocals) {argsL rest : List Value} (hlen : ∀ sig, parseMethodDescriptor y.desc = some sig → argsL.length = sig.parameters.length)
    (hstack : g.stack = argsL.reverse ++ .ref b :: rest) (hW : 2 * g.monitorRoom + (rest.map fun v => v.category).sum ≤ W9) (hdg : decode c.code g.pc = .ok (.invokevirtual index, 3))
    (hpre : ∀ vm₁, s.WarmedH vm₁ → Pre ⟨T.setVm vm₁, locs, cells, slots⟩ (Value.ref b :: argsL).toArray) :
    (∃ (v : Option Value) (vm₁ : Vm) (B : Pt), s.WarmedH vm₁ ∧ Stand p l e R s m args below meth c B.U B.locs B.cells B.slots ∧ Post ⟨T.setVm vm₁, locs, cells, slots⟩ (Value.ref b :: argsL).toArray v B ∧
      ∀ target, Steps p.tables e below (B.U.setTop { g with pc := g.pc + 3, stack := v.toList ++ rest }) target → Steps p.tables e below (T.setTop g) target) ∨
    (∃ (q : Addr) (vm₁ : Vm) (B : Pt), s.WarmedH vm₁ ∧ Stand p l e R s m args below meth c B.U B.locs B.cells B.slots ∧ PostX ⟨T.setVm vm₁, locs, cells, slots⟩ (Value.ref b :: argsL).toArray q B ∧
      Steps p.tables e below (T.setTop g) ((B.U.setTop { g with stack := rest }).pushFrame (.throwing q))) := by
  obtain ⟨mk, methM, hnamed, hmethM, hstM, habM⟩ := Cond.instanceMethod_spec hinst
  obtain ⟨m8, methM', cM, hn8, hmethM', -, -, -, -, -, -, hsigM⟩ := Cond.codeWith_spec hcode
  cases Option.some.inj (hn8.symm.trans hnamed)
  cases hmethM.symm.trans hmethM'
  obtain ⟨c2, r2, m2, q1, q2, q3, q4, kP, hkP, hkPi⟩ := Cond.selects_spec hsel
  cases hcls.symm.trans q1
  cases (State.methodFound?_of_named hnamed hy).symm.trans q2
  cases hnamed.symm.trans q3
  have hselP : selectMethod e.platform s.vm cellB.cls mk = .method mk := by rw [Launch.admits_selectMethod X.admits]; exact q4
  obtain ⟨vm₁, X₁, hstep₁⟩ := X.invokevirtual hexec hown hlink hnamed hmethM hstM hkP hkPi hy (a := b) (cell := cellB) hcell
    (fun z h => by rw [h] at hobj; cases hobj) hselP hmethM habM hkP hkPi (g := g) hg (argsL := argsL) (rest := rest) (hlen _ hsigM) hstack hdg
  rcases hK m meth c ⟨T.setVm vm₁, locs, cells, slots⟩ { g with stack := rest } (.invokevirtual index) mk (Value.ref b :: argsL).toArray X₁ hg hsize hdg hW (X₁.named hnamed) (hpre vm₁ X₁.warmed) with ⟨v, B, X', hpost, hsteps⟩ | ⟨q, B, X', hpost, hsteps⟩
  · exact Or.inl ⟨v, vm₁, B, X₁.warmed, X', hpost, fun target h => hstep₁ _ fun acts => by rw [doInvoke_state]; exact hsteps.trans h⟩
  · exact Or.inr ⟨q, vm₁, B, X₁.warmed, X', hpost, hstep₁ _ fun acts => by rw [doInvoke_state]; exact hsteps⟩
theorem vx_callSX (X : Stand p l e R s m args below meth c T locs cells slots) (hexec : p.tables.exec = Jvm.exec) {own : String} {index : Nat} {y : MethodName} {bytes : ByteArray} {maxL : Nat} {ret : Option FieldType} {hh : List (Nat × Nat × Nat × Nat)}
    (hown : s.vm.findClass own = some m.cls) (hlink : (Cond.methodLink own index y).before args s = true) (hstat : (Cond.static y).before args s = true) (hinit : (Cond.initialized y.cls).before args s = true)
    (hcode : (Cond.codeWith y bytes maxL ret hh).before args s = true) (hy : y.cls ≠ "java/lang/invoke/MethodHandle" ∧ y.cls ≠ "java/lang/invoke/VarHandle")
    {W9 : Nat} {Pre : Pt → Array Value → Prop} {Post : Pt → Array Value → Option Value → Pt → Prop} {PostX : Pt → Array Value → Addr → Pt → Prop} (hK : vx_Back l R p e below s args y 3 W9 Pre Post PostX)
    {g : JFrame} (hg : g.method = m) (hsize : g.locals.size = c.maxLocals) {argsL rest : List Value} (hlen : ∀ sig, parseMethodDescriptor y.desc = some sig → argsL.length = sig.parameters.length)
    (hstack : g.stack = argsL.reverse ++ rest) (hW : 2 * g.monitorRoom + (rest.map fun v => v.category).sum ≤ W9) (hdg : decode c.code g.pc = .ok (.invokestatic index, 3))
    (hpre : ∀ vm₁, s.WarmedH vm₁ → Pre ⟨T.setVm vm₁, locs, cells, slots⟩ argsL.toArray) :
    (∃ (v : Option Value) (vm₁ : Vm) (B : Pt), s.WarmedH vm₁ ∧ Stand p l e R s m args below meth c B.U B.locs B.cells B.slots ∧ Post ⟨T.setVm vm₁, locs, cells, slots⟩ argsL.toArray v B ∧
      ∀ target, Steps p.tables e below (B.U.setTop { g with pc := g.pc + 3, stack := v.toList ++ rest }) target → Steps p.tables e below (T.setTop g) target) ∨
    (∃ (q : Addr) (vm₁ : Vm) (B : Pt), s.WarmedH vm₁ ∧ Stand p l e R s m args below meth c B.U B.locs B.cells B.slots ∧ PostX ⟨T.setVm vm₁, locs, cells, slots⟩ argsL.toArray q B ∧
      Steps p.tables e below (T.setTop g) ((B.U.setTop { g with stack := rest }).pushFrame (.throwing q))) := by
  obtain ⟨mk, methM, cM, hnamed, hmethM, -, -, -, -, -, -, hsigM⟩ := Cond.codeWith_spec hcode
  have hstatic : methM.isStatic = true := Cond.static_spec hnamed hmethM hstat
  obtain ⟨kP, hkP, -⟩ := className_of_methodNamed hnamed
  have hinitP : kP.init = .initialized := Cond.initialized_spec (findClass_of_methodNamed hnamed) hkP hinit
  obtain ⟨vm₁, X₁, hstep₁⟩ := X.invokestatic hexec hown hlink hnamed hmethM hstatic hkP hinitP hy (g := g) hg (argsL := argsL) (rest := rest) (hlen _ hsigM) hstack hdg
  rcases hK m meth c ⟨T.setVm vm₁, locs, cells, slots⟩ { g with stack := rest } (.invokestatic index) mk argsL.toArray X₁ hg hsize hdg hW (X₁.named hnamed) (hpre vm₁ X₁.warmed) with ⟨v, B, X', hpost, hsteps⟩ | ⟨q, B, X', hpost, hsteps⟩
  · exact Or.inl ⟨v, vm₁, B, X₁.warmed, X', hpost, fun target h => hstep₁ _ fun acts => by rw [doInvoke_state]; exact hsteps.trans h⟩
  · exact Or.inr ⟨q, vm₁, B, X₁.warmed, X', hpost, hstep₁ _ fun acts => by rw [doInvoke_state]; exact hsteps⟩
theorem vx_callVW (X : Stand p l e R s m args below meth c T locs cells slots) (hexec : p.tables.exec = Jvm.exec) {own C : String} {index : Nat} {y : MethodName} {bytes : ByteArray} {maxL : Nat} {ret : Option FieldType} {hh : List (Nat × Nat × Nat × Nat)}
    (hown : s.vm.findClass own = some m.cls) (hlink : (Cond.methodLink own index y).before args s = true) (hinst : (Cond.instanceMethod y).before args s = true) (hsel : (Cond.selects C y y).before args s = true)
    (hcode : (Cond.codeWith y bytes maxL ret hh).before args s = true) (hy : y.cls ≠ "java/lang/invoke/MethodHandle" ∧ y.cls ≠ "java/lang/invoke/VarHandle")
    {W9 : Nat} {Pre : Pt → Array Value → Prop} {Post : Pt → Array Value → Option Value → Pt → Prop} (hK : Back l R p e below s args y 3 W9 Pre Post)
    {b : Addr} {cellB : Cell} (hcell : T.heap[b]? = some cellB) (hobj : cellB.vm.isStatics = false) (hcls : s.vm.findClass C = some cellB.cls)
    {g : JFrame} (hg : g.method = m) (hsize : g.locals.size = c.maxLocals) {argsL rest : List Value} (hlen : ∀ sig, parseMethodDescriptor y.desc = some sig → argsL.length = sig.parameters.length)
    (hstack : g.stack = argsL.reverse ++ .ref b :: rest) (hW : 2 * g.monitorRoom + (rest.map fun v => v.category).sum ≤ W9) (hdg : decode c.code g.pc = .ok (.invokevirtual index, 3))
    (hpre : ∀ vm₁, s.WarmedH vm₁ → Pre ⟨T.setVm vm₁, locs, cells, slots⟩ (Value.ref b :: argsL).toArray) :
    ∃ (v : Option Value) (vm₁ : Vm) (B : Pt), s.WarmedH vm₁ ∧ Stand p l e R s m args below meth c B.U B.locs B.cells B.slots ∧ Post ⟨T.setVm vm₁, locs, cells, slots⟩ (Value.ref b :: argsL).toArray v B ∧
      ∀ target, Steps p.tables e below (B.U.setTop { g with pc := g.pc + 3, stack := v.toList ++ rest }) target → Steps p.tables e below (T.setTop g) target := by
  obtain ⟨mk, methM, hnamed, hmethM, hstM, habM⟩ := Cond.instanceMethod_spec hinst
  obtain ⟨m8, methM', cM, hn8, hmethM', -, -, -, -, -, -, hsigM⟩ := Cond.codeWith_spec hcode
  cases Option.some.inj (hn8.symm.trans hnamed)
  cases hmethM.symm.trans hmethM'
  obtain ⟨c2, r2, m2, q1, q2, q3, q4, kP, hkP, hkPi⟩ := Cond.selects_spec hsel
  cases hcls.symm.trans q1
  cases (State.methodFound?_of_named hnamed hy).symm.trans q2
  cases hnamed.symm.trans q3
  have hselP : selectMethod e.platform s.vm cellB.cls mk = .method mk := by rw [Launch.admits_selectMethod X.admits]; exact q4
  obtain ⟨vm₁, X₁, hstep₁⟩ := X.invokevirtual hexec hown hlink hnamed hmethM hstM hkP hkPi hy (a := b) (cell := cellB) hcell
    (fun z h => by rw [h] at hobj; cases hobj) hselP hmethM habM hkP hkPi (g := g) hg (argsL := argsL) (rest := rest) (hlen _ hsigM) hstack hdg
  obtain ⟨v, B, X', hpost, hsteps⟩ := hK m meth c ⟨T.setVm vm₁, locs, cells, slots⟩ { g with stack := rest } (.invokevirtual index) mk (Value.ref b :: argsL).toArray X₁ hg hsize hdg hW (X₁.named hnamed) (hpre vm₁ X₁.warmed)
  exact ⟨v, vm₁, B, X₁.warmed, X', hpost, fun target h => hstep₁ _ fun acts => by rw [doInvoke_state]; exact hsteps.trans h⟩
abbrev vx_CVW (R : Room) (s : State) (args : Array Value) (own C : String) (index : Nat) (y : MethodName) (bytes : ByteArray) (maxL : Nat) (ret : Option FieldType) (hh : List (Nat × Nat × Nat × Nat)) (ws : List Cond) (rm : Room) (mc ms n : Nat) : Prop :=
  (rm.cells = mc ∧ rm.slots = ms ∧ rm.frames + 1 ≤ R.frames ∧ 8 + (maxL + 11) + rm.locals ≤ R.locals ∧ (∀ w ∈ ws, ∀ (a' : Array Value) (U : State), s.WarmedH U.vm → w.before a' U = true) ∧ Cond.codeWith y bytes maxL ret hh ∈ ws) ∧
  (Cond.codeWith y bytes maxL ret hh).before args s = true ∧ (Cond.initialized y.cls).before args s = true ∧ (y.cls ≠ "java/lang/invoke/MethodHandle" ∧ y.cls ≠ "java/lang/invoke/VarHandle") ∧
  (∀ sig, parseMethodDescriptor y.desc = some sig → n = sig.parameters.length) ∧ (Cond.methodLink own index y).before args s = true ∧ (Cond.instanceMethod y).before args s = true ∧ (Cond.selects C y y).before args s = true
theorem vx_cwVW {own C : String} {index maxL mc ms : Nat} {y : MethodName} {bytes : ByteArray} {ret : Option FieldType} {hh : List (Nat × Nat × Nat × Nat)} {Ts ws ws' : List Cond} {rm : Room} (n : Nat) (ht : ∀ w ∈ Ts, w.before args s = true) (hT : GoodIn Ts (wsV own index C y ws)) (hw : ws = Cond.codeWith y bytes maxL ret hh :: ws') (hrc : rm.cells = mc) (hrs : rm.slots = ms)
    (hd : y.cls = C ∧ y.cls ≠ "java/lang/invoke/MethodHandle" ∧ y.cls ≠ "java/lang/invoke/VarHandle" ∧ (parseMethodDescriptor y.desc).map (fun d => d.parameters.length) = some n) (hR : rm.frames + 1 ≤ R.frames ∧ 8 + (maxL + 11) + rm.locals ≤ R.locals) :
    vx_CVW R s args own C index y bytes maxL ret hh ws rm mc ms n := by
  obtain ⟨hC, hd⟩ := hd
  subst hC
  have ok : ∀ w ∈ wsV own index y.cls y ws, w.before args s = true := fun w h => ht w (hT w h).1
  have hG : GoodIn Ts ws := fun w h => hT w (by unfold wsV; exact List.mem_append_right _ h)
  have hc : Cond.codeWith y bytes maxL ret hh ∈ ws := by rw [hw]; exact List.mem_cons_self
  refine ⟨⟨hrc, hrs, hR.1, hR.2, pay_in ht hG, hc⟩, ht _ (hG _ hc).1, ok _ (by simp [wsV]), ⟨hd.1, hd.2.1⟩, fun sig h => ?_, ok _ (by simp [wsV]), ok _ (by simp [wsV]), ok _ (by simp [wsV])⟩
  have h2 := hd.2.2
  rw [h] at h2
  exact (Option.some.inj h2).symm
theorem vx_runVW {y : MethodName} {bytes cc : ByteArray} {maxL nL mc ms n index : Nat} {ret : Option FieldType} {hh : List (Nat × Nat × Nat × Nat)} {ws : List Cond} {rm : Room} {Pc : Array Value → State → Prop} {Qc : Array Value → State → Outcome → State → Prop} {free : Addr → Prop} {Ts : List Cond} {own C : String} {b : Addr} {As rest : List Value} {g : JFrame}
    (S : CallFix p m c cc nL s args Ts own) (hM : Met l y ws rm Pc Qc mc ms free) (cw : vx_CVW R s args own C index y bytes maxL ret hh ws rm mc ms n) (hp : PreV s H C b Pc As)
    (hg : g.method = m) (hn : As.length = n) (hsize : g.locals.size = nL) (hstack : g.stack = As.reverse ++ .ref b :: rest) (hW : 2 * g.monitorRoom + (rest.map fun v => v.category).sum ≤ 8) (hdg : decode cc g.pc = .ok (.invokevirtual index, 3)) (hf : cells + mc ≤ R.cells ∧ slots + ms ≤ R.slots) :
    va_Run p l e R s m args below meth c H locs cells slots mc ms g rest (Qc (Value.ref b :: As).toArray) free := by
  obtain ⟨⟨hrc, hrs, hfr, hlo, hws, hcw⟩, hcode, hini, hy, hlen, hl, hin, hse⟩ := cw
  have hK : Back l R p e below s args y 3 8 (PreOf R mc ms Pc) (PostOf Qc mc ms free) := va_backW (hh := hh) (bytes := bytes) (maxL := maxL) (ret := ret) hM hp.1 hrc hrs hfr hlo hws hcw (fun a' U hW => word_at hW (Or.inl (by first | rfl | simp [Cond.onTables, Cond.keeps, Cond.steady])) hini)
  obtain ⟨hx, hb, hml, ho, -⟩ := S
  obtain ⟨-, ⟨cellB, hcB, hoB, hclB⟩, hPc⟩ := hp
  intro T hT X
  obtain ⟨v, vm₁, ⟨U', l2, c2, s2⟩, hW₁, X', ⟨g', mk, t, L, e1, e2, hq, h1, hL, h2, h3⟩, st⟩ := vx_callVW X hx (C := C) (hh := hh) (bytes := bytes) (maxL := maxL) (ret := ret) ho hl hin hse hcode hy hK (by rw [hT]; exact hcB) hoB hclB hg (hsize.trans hml.symm) (argsL := As) (rest := rest) (fun sig h => hn.trans (hlen sig h)) hstack hW (by rw [hb]; exact hdg)
    (fun vm₁ hW₁ => ⟨hf.1, hf.2, hPc (T.setVm vm₁) hT hW₁⟩)
  dsimp only [Pt.U, Pt.locs, Pt.cells, Pt.slots] at X' e1 e2 h1 h2 h3 st
  subst h1; subst h2; subst h3
  exact ⟨v, (T.setVm vm₁).calling g' mk (Value.ref b :: As).toArray, t, U', L, hT, X', hL, e1, e2, hq, st⟩
section
variable {y : MethodName} {bytes cc : ByteArray} {maxL nL mc ms n index : Nat} {ret : Option FieldType} {ws : List Cond} {rm : Room} {Pc : Array Value → State → Prop} {Qc : Array Value → State → Outcome → State → Prop} {XC : String → State → State → Prop} {free : Addr → Prop} {Ts : List Cond} {own C : String} {b : Addr} {As rest : List Value} {g : JFrame}
theorem vx_runVX {hh : List (Nat × Nat × Nat × Nat)} (S : CallFix p m c cc nL s args Ts own) (hM : vx_Met l y ws rm Pc Qc XC mc ms free) (cw : vx_CVW R s args own C index y bytes maxL ret hh ws rm mc ms n) (hp : PreV s H C b Pc As)
    (hg : g.method = m) (hn : As.length = n) (hsize : g.locals.size = nL) (hstack : g.stack = As.reverse ++ .ref b :: rest) (hW : 2 * g.monitorRoom + (rest.map fun v => v.category).sum ≤ 8) (hdg : decode cc g.pc = .ok (.invokevirtual index, 3)) (hf : cells + mc ≤ R.cells ∧ slots + ms ≤ R.slots) :
    vx_Run p l e R s m args below meth c H locs cells slots mc ms g rest (Qc (Value.ref b :: As).toArray) XC free := by
  obtain ⟨⟨hrc, hrs, hfr, hlo, hws, hcw⟩, hcode, hini, hy, hlen, hl, hin, hse⟩ := cw
  have hK : vx_Back l R p e below s args y 3 8 (PreOf R mc ms Pc) (PostOf Qc mc ms free) (vx_Post XC mc ms free) := vx_backW (hh := hh) (bytes := bytes) (maxL := maxL) (ret := ret) hM hp.1 hrc hrs hfr hlo hws hcw (fun a' U hW => word_at hW (Or.inl (by first | rfl | simp [Cond.onTables, Cond.keeps, Cond.steady])) hini)
  obtain ⟨hx, hb, hml, ho, -⟩ := S
  obtain ⟨-, ⟨cellB, hcB, hoB, hclB⟩, hPc⟩ := hp
  intro T hT X
  rcases vx_callVX X hx (C := C) (hh := hh) (bytes := bytes) (maxL := maxL) (ret := ret) ho hl hin hse hcode hy hK (by rw [hT]; exact hcB) hoB hclB hg (hsize.trans hml.symm) (argsL := As) (rest := rest) (fun sig h => hn.trans (hlen sig h)) hstack hW (by rw [hb]; exact hdg)
    (fun vm₁ hW₁ => ⟨hf.1, hf.2, hPc (T.setVm vm₁) hT hW₁⟩) with ⟨v, vm₁, ⟨U', l2, c2, s2⟩, hW₁, X', ⟨g', mk, t, L, e1, e2, hq, h1, hL, h2, h3⟩, st⟩ | ⟨q, vm₁, ⟨U', l2, c2, s2⟩, hW₁, X', ⟨g', mk, t, L, E, ce, e1, e2, hq, hce, hcv, hcl, h1, hL, h2, h3⟩, st⟩
  · dsimp only [Pt.U, Pt.locs, Pt.cells, Pt.slots] at X' e1 e2 h1 h2 h3 st
    subst h1; subst h2; subst h3
    exact Or.inl ⟨v, (T.setVm vm₁).calling g' mk (Value.ref b :: As).toArray, t, U', L, hT, X', hL, e1, e2, hq, st⟩
  · dsimp only [Pt.U, Pt.locs, Pt.cells, Pt.slots] at X' e1 e2 h1 h2 h3 st hcl
    subst h1; subst h2; subst h3
    exact Or.inr ⟨q, (T.setVm vm₁).calling g' mk (Value.ref b :: As).toArray, t, U', L, E, ce, hT, X', hL, e1, e2, hq, hce, hcv, vx_cls hW₁ hcl, st⟩
theorem vx_runSX {hh : List (Nat × Nat × Nat × Nat)} (S : CallFix p m c cc nL s args Ts own) (hM : vx_Met l y ws rm Pc Qc XC mc ms free) (cw : vx_CSW R s args own index y bytes maxL ret hh ws rm mc ms n) (hp : PreS s H Pc As)
    (hg : g.method = m) (hn : As.length = n) (hsize : g.locals.size = nL) (hstack : g.stack = As.reverse ++ rest) (hW : 2 * g.monitorRoom + (rest.map fun v => v.category).sum ≤ 8) (hdg : decode cc g.pc = .ok (.invokestatic index, 3)) (hf : cells + mc ≤ R.cells ∧ slots + ms ≤ R.slots) :
    vx_Run p l e R s m args below meth c H locs cells slots mc ms g rest (Qc As.toArray) XC free := by
  obtain ⟨⟨hrc, hrs, hfr, hlo, hws, hcw⟩, hcode, hini, hy, hlen, hl, hstt⟩ := cw
  have hK : vx_Back l R p e below s args y 3 8 (PreOf R mc ms Pc) (PostOf Qc mc ms free) (vx_Post XC mc ms free) := vx_backW (hh := hh) (bytes := bytes) (maxL := maxL) (ret := ret) hM hp.1 hrc hrs hfr hlo hws hcw (fun a' U hW => word_at hW (Or.inl (by first | rfl | simp [Cond.onTables, Cond.keeps, Cond.steady])) hini)
  obtain ⟨hx, hb, hml, ho, -⟩ := S
  intro T hT X
  rcases vx_callSX X hx (hh := hh) (bytes := bytes) (maxL := maxL) (ret := ret) ho hl hstt hini hcode hy hK hg (hsize.trans hml.symm) (argsL := As) (rest := rest) (fun sig h => hn.trans (hlen sig h)) hstack hW (by rw [hb]; exact hdg)
    (fun vm₁ hW₁ => ⟨hf.1, hf.2, hp.2 (T.setVm vm₁) hT hW₁⟩) with ⟨v, vm₁, ⟨U', l2, c2, s2⟩, hW₁, X', ⟨g', mk, t, L, e1, e2, hq, h1, hL, h2, h3⟩, st⟩ | ⟨q, vm₁, ⟨U', l2, c2, s2⟩, hW₁, X', ⟨g', mk, t, L, E, ce, e1, e2, hq, hce, hcv, hcl, h1, hL, h2, h3⟩, st⟩
  · dsimp only [Pt.U, Pt.locs, Pt.cells, Pt.slots] at X' e1 e2 h1 h2 h3 st
    subst h1; subst h2; subst h3
    exact Or.inl ⟨v, (T.setVm vm₁).calling g' mk As.toArray, t, U', L, hT, X', hL, e1, e2, hq, st⟩
  · dsimp only [Pt.U, Pt.locs, Pt.cells, Pt.slots] at X' e1 e2 h1 h2 h3 st hcl
    subst h1; subst h2; subst h3
    exact Or.inr ⟨q, (T.setVm vm₁).calling g' mk As.toArray, t, U', L, E, ce, hT, X', hL, e1, e2, hq, hce, hcv, vx_cls hW₁ hcl, st⟩
end
end VXH
theorem vx_ofWH {l : Launch} {y : MethodName} {ws ws' : List Cond} {rm : Room} {Pc : Array Value → State → Prop} {Qc : Array Value → State → Outcome → State → Prop} {XC : String → State → State → Prop} {mc ms : Nat} {free : Addr → Prop} {cc : ByteArray} {maxL : Nat} {ret : Option FieldType} {hh : List (Nat × Nat × Nat × Nat)}
    (hy : plainName y.cls = true) (hw : ws = Cond.codeWith y cc maxL ret hh :: ws')
    (body : ∀ p e s m args below meth c s₁, BodyLoose p l y (headSpec ws rm) cc maxL ret e s m args below meth c s₁ → c.maxLocals = maxL → Pc args s →
      W p l e (headSpec ws rm).room s m args below meth c s.heap [] 0 0 (vx_MQ below Qc XC args s mc ms free) (entryFrame m args maxL)) : vx_Met l y ws rm Pc Qc XC mc ms free := by
  refine MetFree.of_bodyS (code := cc) (maxLocals := maxL) (ret := ret) hy ?_ ?_
  · intro args s m h hn
    obtain ⟨m9, meth, c, hn9, h1, h2, h3, h4, -, h5, h6, -⟩ := Cond.codeWith_spec (atoms_spec (ws := ws) h _ (by rw [hw]; exact List.mem_cons_self))
    cases hn.symm.trans hn9
    exact ⟨meth, c, h1, h2, h3, h4, h5, h6⟩
  · intro p e s m args below meth c s₁ B hml hP _
    have hh0 : s₁.heap = s.heap := by rw [B.state]; rfl
    obtain ⟨t, a1, o, b1, b2, b3⟩ := body p e s m args below meth c s₁ B hml hP s₁ hh0 (Stand.of_body B)
    exact ⟨t, o, a1, b1, b2, b3⟩
/-! ===== END ===== -/
/-! ===== BEGIN what the machine throws by itself, no traces kept ===== -/
section VXM
set_option maxHeartbeats 1000000 in
/-- the machine throws cls with the message text, no traces kept: from its note over the frame g to 'throwing' over the same frame (follows the proofs of Stand.vmThrowsMessage, Shelf/KitTracedVmS.lean, and Stand.throwsMessageColdBareV, StandMessageColdV.lean, without the step out of the frame) -/
theorem vx_vmAt {p : Program} {l : Launch} {e : Env} {R : Room} {s : State} {m₀ : MethodId} {args : Array Value} {below : List Frame} {meth : Method} {c : Code} {W : State} {locs : List Loc} {cells slots : Nat}
    (X : Stand p l e R s m₀ args below meth c W locs cells slots) (hexec : p.tables.exec = Jvm.exec) (htr : e.platform.stackTraces = false) {cls : String} {names : List String} {text : String}
    (hcls : Bundle.fit cls = true) (hnames : ∀ n ∈ names, Bundle.fit n = true) (hsoe : (cls == "java/lang/StackOverflowError") = false) (hoom : (cls == "java/lang/OutOfMemoryError") = false)
    (h : ∀ a ∈ Bundle.messageArmAtoms cls names, a.before args s = true)
    (hlocs : ∀ x ∈ locs, ∀ cell, s.heap[x.base]? = some cell → cell.vm.isStatics = false)
    (htext : (text == notModelled) = false) (hlimit : ¬ (stringBytes (stringToUtf16 text)).size > e.platform.arrayLengthLimit) (hheap : ¬ (stringBytes (stringToUtf16 text)).size * componentBytes .byte > e.platform.maxHeapBytes)
    {g : JFrame} (hg : g.method = m₀) (hsize : g.locals.size = c.maxLocals)
    (hRframes : names.length + 4 < R.frames) (hRlocals : 2 * g.monitorRoom + (g.stack.map fun v => v.category).sum + 10240 ≤ R.locals) (hshort : 13 * names.length + 55 ≤ 10240)
    (hRcells : cells + 3 ≤ R.cells) (hRslots : slots + ((stringBytes (stringToUtf16 text)).size + 4 + 6) ≤ R.slots) (hlocks : meth.locks = false) :
    ∃ (S : State) (q : Addr) (ce : Cell), (∀ target, Steps p.tables e below ((S.setTop g).pushFrame (.throwing q)) target → Steps p.tables e below ((W.setTop g).pushFrame (.throwNew cls (some text) none)) target) ∧
      Stand p l e R s m₀ args below meth c S locs (cells + 3) (slots + ((stringBytes (stringToUtf16 text)).size + 4 + 6)) ∧ S.heap[q]? = some ce ∧ s.vm.findClass cls = some ce.cls ∧ ce.vm = .none := by
  have howns : e.platform.frameOwnsMonitors = true := by rw [X.admits.platform]
  have hfin : e.platform.finalization = false := by rw [X.admits.platform]
  have hpl : e.platform.magicAccessors = ({} : Platform).magicAccessors := by rw [X.admits.platform]
  have a : ∀ x, x ∈ Bundle.messageArmAtoms cls names → x.holds args s none s [] = true := fun x hx => h x hx
  obtain ⟨T, Z0, L, -, Y⟩ := ThrowableC.of_atoms (args := args) howns hfin hpl (fun x hx => h x (by simp [Bundle.messageArmAtoms, hx]))
  obtain ⟨Z, M, LZ, LM, hnZ⟩ := Init0T.ofS_atoms (args := args) hpl L Y (fun x hx => h x (by simp [Bundle.messageArmAtoms, hx]))
  obtain ⟨P1, Ps, hlen, L1, hL, hP1m, hlink1, hlink⟩ := Bundle.chainS (args := args) hpl hnZ names cls hcls hnames (fun x hx => h x (by simp [Bundle.messageArmAtoms, hx]))
  obtain ⟨Zs, LZs, hn4, hfitv, hfitc⟩ := StringT.of_atoms (args := args) (fun x hx => h x (by simp [Bundle.messageArmAtoms, hx]))
  have hfound : s.vm.findClass cls = some P1.m.cls := findClass_of_methodNamed hP1m
  obtain ⟨c1, kX, hc1, hk, hord, -, -, hn6⟩ := Cond.instantiable_spec (a (.instantiable cls 6) (by simp [Bundle.messageArmAtoms]))
  cases Option.some.inj (hc1.symm.trans hfound)
  have hinit := Cond.initialized_spec hfound hk (a (.initialized cls) (by simp [Bundle.messageArmAtoms]))
  have hctor : kX.findMethod "<init>" "(Ljava/lang/String;)V" = some P1.m.idx := findMethod_of_methodNamed hP1m hk
  have hsel0 : selectMethod e.platform s.vm P1.m.cls T.fill0 = .method T.fill0 := by
    obtain ⟨c2, r2, m2, q1, q2, q3, q4, -⟩ := Cond.selects_spec (a (.selects cls Bundle.tFill0 Bundle.tFill0) (by simp [Bundle.messageArmAtoms]))
    cases Option.some.inj (q1.symm.trans hfound)
    cases Option.some.inj (q2.symm.trans (State.methodFound?_of_named Y.fill0 (by decide)))
    cases Option.some.inj (q3.symm.trans Y.fill0)
    rw [Launch.admits_selectMethod X.admits]; exact q4
  have hselF : selectMethod e.platform s.vm P1.m.cls T.fill = .method T.fill := by
    obtain ⟨c2, r2, m2, q1, q2, q3, q4, -⟩ := Cond.selects_spec (a (.selects cls Bundle.tFill Bundle.tFill) (by simp [Bundle.messageArmAtoms]))
    cases Option.some.inj (q1.symm.trans hfound)
    cases Option.some.inj (q2.symm.trans (State.methodFound?_of_named Y.fill (by decide)))
    cases Option.some.inj (q3.symm.trans Y.fill)
    rw [Launch.admits_selectMethod X.admits]; exact q4
  obtain ⟨cellS0, hcS0, hiss⟩ := Y.statics
  obtain ⟨u0, hu0⟩ := Cond.staticRefV Y.unassigned L.unassignedStatic L.statics hcS0 hiss (a (.isRef (.static Bundle.tN "UNASSIGNED_STACK" Bundle.steD)) (by simp [Bundle.messageArmAtoms]))
  obtain ⟨sen, hsen⟩ := Cond.staticRefV Y.sentinel L.sentinelStatic L.statics hcS0 hiss (a (.isRef (.static Bundle.tN "SUPPRESSED_SENTINEL" Bundle.listD)) (by simp [Bundle.messageArmAtoms]))
  obtain ⟨ci198, i198, fB, hk198, hg198, ha198, hsB, -, hnB, htB, hffB⟩ := Cond.ownField (t := .object "java/lang/Object") Y.found L.cls (by decide +kernel) (a (.fieldLink Bundle.tN 198 Bundle.tN "backtrace" "Ljava/lang/Object;") (by simp [Bundle.messageArmAtoms])) (a (.lays Bundle.tN Bundle.tN "backtrace" "Ljava/lang/Object;") (by simp [Bundle.messageArmAtoms])) e.platform hpl
  obtain ⟨cellS, hcS', heS, -, hkeep⟩ := X.same.2.2.2.2.2 T.aS cellS0 hcS0
  have hcellS : W.heap[T.aS]? = some cellS := hcS'
  have hout' : ∀ i, (⟨T.aS, i⟩ : Loc) ∉ locs := fun i hmem => by
    have := hlocs _ hmem cellS0 hcS0
    rw [hiss] at this; cases this
  have hknownS : cellS.vm ≠ .unknown := by
    rw [heS]; intro hu
    rw [show cellS0.vm = .unknown from hu] at hiss
    cases hiss
  have hvU : cellS.slots[T.fUnassigned.slot]? = some u0.v := by rw [hkeep _ (hout' _)]; exact hu0
  have hvSen : cellS.slots[T.fSentinel.slot]? = some sen.v := by rw [hkeep _ (hout' _)]; exact hsen
  obtain ⟨iM, hffM⟩ := Y.msg
  obtain ⟨tyC, dC, hdC, hdnC⟩ := Cond.laysAt hfound hk Y.cause (a (.lays cls Bundle.tN "cause" "Ljava/lang/Throwable;") (by simp [Bundle.messageArmAtoms]))
  obtain ⟨tyS, dS, hdS, hdnS⟩ := Cond.laysAt hfound hk Y.stack (a (.lays cls Bundle.tN "stackTrace" Bundle.steD) (by simp [Bundle.messageArmAtoms]))
  obtain ⟨tyP, dP, hdP, hdnP⟩ := Cond.laysAt hfound hk Y.supp (a (.lays cls Bundle.tN "suppressedExceptions" Bundle.listD) (by simp [Bundle.messageArmAtoms]))
  obtain ⟨tyM, dM, hdM, hdnM⟩ := Cond.laysAt hfound hk hffM (a (.lays cls Bundle.tN "detailMessage" "Ljava/lang/String;") (by simp [Bundle.messageArmAtoms]))
  obtain ⟨tyB, dB, hdB, hdnB⟩ := Cond.laysAt hfound hk hffB (a (.lays cls Bundle.tN "backtrace" "Ljava/lang/Object;") (by simp [Bundle.messageArmAtoms]))
  have bC := Cond.laysApart hdB hdC hdnB hdnC (by rw [hnB, Y.causeName]; decide)
  have bS := Cond.laysApart hdB hdS hdnB hdnS (by rw [hnB, Y.stackName]; decide)
  have bP := Cond.laysApart hdB hdP hdnB hdnP (by rw [hnB, Y.suppName]; decide)
  have hbk : ((preparedCellV T.toThrowableT (freshCell P1.m.cls kX) (W.heap.size + 2) u0 sen).withEntry W.cur).slots[fB.slot]? = some .null := by
    have := fresh_default (c := P1.m.cls) tyB
    rw [htB] at this
    simpa [preparedCellV, Cell.setSlot, Cell.withEntry, Array.getElem?_setIfInBounds, bC, bS, bP, bC.symm, bS.symm, bP.symm, defaultValue] using this
  have tkC := Takes.of_laid (v := .ref (W.heap.size + 2)) hk hord tyC (by rw [Y.causeType]; rfl)
  have tkS := Takes.of_laid (v := u0.v) hk hord tyS (by rw [Y.stackType]; exact fits_refV_array _ u0)
  have tkP := Takes.of_laid (v := sen.v) hk hord tyP (by rw [Y.suppType]; exact fits_refV_object _ sen)
  have tkM := Takes.of_laid (v := .ref (W.heap.size + 1)) hk hord tyM (by rw [Y.msgType]; rfl)
  have hskip : SkipFacts T e.platform s (fun u => u) u0 ((preparedCellV T.toThrowableT (freshCell P1.m.cls kX) (W.heap.size + 2) u0 sen).withEntry W.cur) := ⟨{ ci198 := ci198, i198 := i198, fBack := fB }, ⟨hk198, hg198, ha198, hsB⟩, hbk, fun _ _ => rfl⟩
  have h0 : At W g.method c below := by rw [hg]; exact X.here
  obtain ⟨hbeyond, hfreeW⟩ := X.vmMayThrow hsize (.throwNew cls (some text) none) (fun f hf => by cases hf) rfl hRlocals
  have hfr' : W.frames.length + Ps.length + 4 < (e.platform.stackLimits W.me).1 := by have := X.framesAbove hRframes; omega
  have hwd' : (stackUse (.java g :: W.frames.tail)).2 + 13 * Ps.length + 55 ≤ (e.platform.stackLimits W.me).2 := by have := X.stackAbove hsize (K := 13 * Ps.length + 55) (by omega); omega
  have hslots : W.slotsUsed + (stringBytes (stringToUtf16 text)).size + Zs.kS.instanceTypes.size + kX.instanceTypes.size ≤ e.platform.maxSlots := by
    have := X.slotsAbove hRslots
    rw [hn4, hn6]
    omega
  obtain ⟨vm', hW', st⟩ := Steps.vmThrowsMessageColdByV p (s₀ := s) (S := W) (g := g) h0 hexec T L Z LZ M LM X.warmed (t := W.cur) rfl Zs LZs P1 L1 Ps hL hlink1 hlink hsoe hoom hfound hk hinit hord hctor
    (Launch.admits_hotImplicitExceptions X.admits) hbeyond hfreeW htext hlimit hheap (X.cellsAbove hRcells) hslots (hfitv _) (hfitc _)
    (Nn := fun u => u) heapOnly_id (fun _ _ => rfl) (fun _ => rfl) (fun u x y => setCell_twice _ _ _ _) (fun _ => Nat.le_refl _) (cN := ((preparedCellV T.toThrowableT (freshCell P1.m.cls kX) (W.heap.size + 2) u0 sen).withEntry W.cur))
    hsel0 hcellS hknownS hvU tkS (fun _ hu => hu) (fun _ hu => hu) rfl rfl rfl (by simp [preparedCellV, Cell.setSlot, Cell.withEntry]) hskip (fun _ _ hA hW _ hroom _ hrest => L.nativeOff p htr hA hW hroom hrest) hselF hvSen tkC tkP tkM Y.objLocals rfl hfr' hwd'
  rw [plainBareV_eq T.toThrowableT (W.heap.size + 2) u0 sen (.ref (W.heap.size + 1)) W.cur rfl rfl] at st
  obtain ⟨-, -, w3, w4, -, -, -⟩ := withThrown_facts e.platform W Zs text P1.m.cls kX
  have X3 := ((X.pushed (bytesOf Zs.cB (stringToUtf16 text))).pushed (stringAt Zs.cS Zs.kS Zs.fv Zs.fc (stringToUtf16 text) W.heap.size)).pushed (freshCell P1.m.cls kX)
  rw [← withString_eq] at X3
  have X4 := X3.noted hW'
  have ha : (W.heap.size + 2) < ((withThrown W Zs text P1.m.cls kX).setVm vm').heap.size := by show _ < (withThrown W Zs text P1.m.cls kX).heap.size; rw [w3]; omega
  have hcell : ((withThrown W Zs text P1.m.cls kX).setVm vm').heap[(W.heap.size + 2)]? = some (freshCell P1.m.cls kX) := w4
  have X5 := ((((X4.stored hcell T.fCause.slot (.ref (W.heap.size + 2))).storedAgain ha T.fStack.slot u0.v).storedAgain ha T.fSupp.slot sen.v).storedAgain ha T.fStack.slot u0.v).storedAgain ha T.fMsg.slot (.ref (W.heap.size + 1))
  obtain ⟨g₁, hfrM⟩ := X5.frames_eq
  have hU : ((((withThrown W Zs text P1.m.cls kX).setVm vm').setCell (W.heap.size + 2) (plainBareV T.toThrowableT (freshCell P1.m.cls kX) (W.heap.size + 2) u0 sen (.ref (W.heap.size + 1)))).setTop g).pushFrame (.throwing (W.heap.size + 2)) = (((withThrown W Zs text P1.m.cls kX).setVm vm').setCell (W.heap.size + 2) (plainBareV T.toThrowableT (freshCell P1.m.cls kX) (W.heap.size + 2) u0 sen (.ref (W.heap.size + 1)))).setFrames (.throwing (W.heap.size + 2) :: .java g :: below) := by
    rw [State.pushFrame, State.frames_setTop _ hfrM, State.setTop_of_frames _ hfrM, State.setFrames_setFrames]
  have b1 : (bytesOf Zs.cB (stringToUtf16 text)).slots.size = (stringBytes (stringToUtf16 text)).size := by
    rw [(Cell.writeAll_facts _ _).2.2]; simp [bytes0]
  have b2 : (stringAt Zs.cS Zs.kS Zs.fv Zs.fc (stringToUtf16 text) W.heap.size).slots.size = 4 := by simp [string0, Cell.setSlot, hn4]
  have b3 : (freshCell P1.m.cls kX).slots.size = 6 := by simp [hn6]
  rw [b1, b2, b3] at X5
  have e9 : slots + (stringBytes (stringToUtf16 text)).size + 4 + 6 = slots + ((stringBytes (stringToUtf16 text)).size + 4 + 6) := by omega
  rw [e9] at X5
  simp only [List.append_assoc, List.cons_append, List.nil_append] at X5
  refine ⟨((withThrown W Zs text P1.m.cls kX).setVm vm').setCell (W.heap.size + 2) (plainBareV T.toThrowableT (freshCell P1.m.cls kX) (W.heap.size + 2) u0 sen (.ref (W.heap.size + 1))), W.heap.size + 2, _, fun target ht => st _ (by rw [X.tail, ← hU]; exact ht),
    X5.forget (fun y hy => ?_), heapAt_setCell_self _ ha, hfound, rfl⟩
  simp only [List.mem_cons, List.not_mem_nil, or_false] at hy
  have hge : s.heap.size ≤ W.heap.size := X.same.2.1
  rcases hy with rfl | rfl | rfl | rfl | rfl <;> exact Nat.le_trans hge (Nat.le_add_right _ 2)
set_option maxHeartbeats 1000000 in
/-- the machine throws NullPointerException, no traces kept: from its note over the frame g to 'throwing' over the same frame (follows the proof of Stand.vmThrowsNpe, Shelf42/KT2.lean; throwsNpeColdBareVAt, Shelf42/NT91.lean, called) -/
theorem vx_npeAt {p : Program} {l : Launch} {e : Env} {R : Room} {s : State} {m₀ : MethodId} {args : Array Value} {below : List Frame} {meth : Method} {c : Code} {W : State} {locs : List Loc} {cells slots : Nat}
    (X : Stand p l e R s m₀ args below meth c W locs cells slots) (hexec : p.tables.exec = Jvm.exec) (htr : e.platform.stackTraces = false) {n : Nat}
    (h : ∀ a ∈ Bundle.npeArmAtoms n, a.before args s = true)
    (hlocs : ∀ x ∈ locs, ∀ cell, s.heap[x.base]? = some cell → cell.vm.isStatics = false)
    {g : JFrame} (hg : g.method = m₀) (hsize : g.locals.size = c.maxLocals)
    (hRframes : 7 < R.frames) (hRlocals : 2 * g.monitorRoom + (g.stack.map fun v => v.category).sum + 10240 ≤ R.locals)
    (hRcells : cells + 1 ≤ R.cells) (hRslots : slots + n ≤ R.slots) (hlocks : meth.locks = false) :
    ∃ (S : State) (q : Addr) (ce : Cell), (∀ target, Steps p.tables e below ((S.setTop g).pushFrame (.throwing q)) target → Steps p.tables e below ((W.setTop g).pushFrame (.throwNew "java/lang/NullPointerException" none none)) target) ∧
      Stand p l e R s m₀ args below meth c S locs (cells + 1) (slots + n) ∧ S.heap[q]? = some ce ∧ s.vm.findClass "java/lang/NullPointerException" = some ce.cls ∧ ce.vm = .none := by
  have howns : e.platform.frameOwnsMonitors = true := by rw [X.admits.platform]
  have hfin : e.platform.finalization = false := by rw [X.admits.platform]
  have hpl : e.platform.magicAccessors = ({} : Platform).magicAccessors := by rw [X.admits.platform]
  have hpl2 : e.platform.arrayCloneIsPublic = true := by rw [X.admits.platform]
  have a' : ∀ x, x ∈ Bundle.npeArmAtoms n → x.holds args s none s [] = true := fun x hx => h x hx
  obtain ⟨T, Z, L, LZ, Y⟩ := ThrowableC.of_atoms (args := args) howns hfin hpl (fun x hx => h x (by simp [Bundle.npeArmAtoms, hx]))
  obtain ⟨N, LN, hcN, hnNF, hordN, hffS⟩ := NpeC.of_atoms (args := args) hpl hpl2 L Y (fun x hx => h x (by simp [Bundle.npeArmAtoms, hx]))
  obtain ⟨P1, L1, hP1m, hP1s⟩ := PassC.of_atoms (args := args) (s := s) hpl (X := Bundle.nN) (Y := Bundle.rN) (by decide) (by decide) LibCode.NullPointerException.Init0.at_0 LibCode.NullPointerException.Init0.at_1 LibCode.NullPointerException.Init0.at_4 (fun x hx => h x (by simp [Bundle.npeArmAtoms, hx]))
  obtain ⟨PR, LR, hPRm, hPRs⟩ := PassC.of_atoms (args := args) (s := s) hpl (X := Bundle.rN) (Y := Bundle.eN) (by decide) (by decide) LibCode.RuntimeException.Init0.at_0 LibCode.RuntimeException.Init0.at_1 LibCode.RuntimeException.Init0.at_4 (fun x hx => h x (by simp [Bundle.npeArmAtoms, hx]))
  obtain ⟨PE, LEx, hPEm, hPEs⟩ := PassC.of_atoms (args := args) (s := s) hpl (X := Bundle.eN) (Y := Bundle.tN) (by decide) (by decide) LibCode.Exception.Init0.at_0 LibCode.Exception.Init0.at_1 LibCode.Exception.Init0.at_4 (fun x hx => h x (by simp [Bundle.npeArmAtoms, hx]))
  have hfound : s.vm.findClass Bundle.nN = some P1.m.cls := findClass_of_methodNamed hP1m
  have ecls : N.cN = P1.m.cls := Option.some.inj (hcN.symm.trans hfound)
  have hk : s.vm.classes[P1.m.cls]? = some N.kN := by rw [← ecls]; exact LN.cls
  have hinit := Cond.initialized_spec hfound hk (a' (.initialized Bundle.nN) (by simp [Bundle.npeArmAtoms]))
  have hctor : N.kN.findMethod "<init>" "()V" = some P1.m.idx := findMethod_of_methodNamed hP1m hk
  obtain ⟨c1, k1, hc1, hk1, -, -, -, hn⟩ := Cond.instantiable_spec (a' (.instantiable Bundle.nN n) (by simp [Bundle.npeArmAtoms]))
  cases Option.some.inj (hc1.symm.trans hfound)
  cases Option.some.inj (hk1.symm.trans hk)
  have hfsz : (freshCell P1.m.cls N.kN).slots.size = n := by simp [hn]
  have hlink1 : P1.sup = PR.m := Option.some.inj (hP1s.symm.trans hPRm)
  have hlinkR : PR.sup = PE.m := Option.some.inj (hPRs.symm.trans hPEm)
  have hlinkE : PE.sup = Z.m T.toThrowableT := Option.some.inj (hPEs.symm.trans Y.init0)
  have hLs : ∀ P, P ∈ [PR, PE] → P.Links0 e.platform s := fun P hP => by
    simp only [List.mem_cons, List.not_mem_nil, or_false] at hP
    rcases hP with rfl | rfl
    · exact LR
    · exact LEx
  have hsel0 : selectMethod e.platform s.vm P1.m.cls T.fill0 = .method T.fill0 := by
    obtain ⟨c2, r2, m2, q1, q2, q3, q4, -⟩ := Cond.selects_spec (a' (.selects Bundle.nN Bundle.tFill0 Bundle.tFill0) (by simp [Bundle.npeArmAtoms]))
    cases Option.some.inj (q1.symm.trans hfound)
    cases Option.some.inj (q2.symm.trans (State.methodFound?_of_named Y.fill0 (by decide)))
    cases Option.some.inj (q3.symm.trans Y.fill0)
    rw [Launch.admits_selectMethod X.admits]; exact q4
  have hselF : selectMethod e.platform s.vm P1.m.cls T.fill = .method N.fill := by
    obtain ⟨c2, r2, m2, q1, q2, q3, q4, -⟩ := Cond.selects_spec (a' (.selects Bundle.nN Bundle.tFill Bundle.nFill) (by simp [Bundle.npeArmAtoms]))
    cases Option.some.inj (q1.symm.trans hfound)
    cases Option.some.inj (q2.symm.trans (State.methodFound?_of_named Y.fill (by decide)))
    cases Option.some.inj (q3.symm.trans hnNF)
    rw [Launch.admits_selectMethod X.admits]; exact q4
  obtain ⟨cellS0, hcS0, hiss⟩ := Y.statics
  obtain ⟨u0, hu0⟩ := Cond.staticRefV Y.unassigned L.unassignedStatic L.statics hcS0 hiss (a' (.isRef (.static Bundle.tN "UNASSIGNED_STACK" Bundle.steD)) (by simp [Bundle.npeArmAtoms]))
  obtain ⟨sen, hsen⟩ := Cond.staticRefV Y.sentinel L.sentinelStatic L.statics hcS0 hiss (a' (.isRef (.static Bundle.tN "SUPPRESSED_SENTINEL" Bundle.listD)) (by simp [Bundle.npeArmAtoms]))
  obtain ⟨ci198, i198, fB, hk198, hg198, ha198, hsB, -, hnB, htB, hffB⟩ := Cond.ownField (t := .object "java/lang/Object") Y.found L.cls (by decide +kernel) (a' (.fieldLink Bundle.tN 198 Bundle.tN "backtrace" Bundle.objD) (by simp [Bundle.npeArmAtoms])) (a' (.lays Bundle.tN Bundle.tN "backtrace" Bundle.objD) (by simp [Bundle.npeArmAtoms])) e.platform hpl
  obtain ⟨cellS, hcS', heS, -, hkeep⟩ := X.same.2.2.2.2.2 T.aS cellS0 hcS0
  have hcellS : W.heap[T.aS]? = some cellS := hcS'
  have hout' : ∀ i, (⟨T.aS, i⟩ : Loc) ∉ locs := fun i hmem => by
    have := hlocs _ hmem cellS0 hcS0
    rw [hiss] at this; cases this
  have hknownS : cellS.vm ≠ .unknown := by
    rw [heS]; intro hu
    rw [show cellS0.vm = .unknown from hu] at hiss
    cases hiss
  have hvU : cellS.slots[T.fUnassigned.slot]? = some u0.v := by rw [hkeep _ (hout' _)]; exact hu0
  have hvSen : cellS.slots[T.fSentinel.slot]? = some sen.v := by rw [hkeep _ (hout' _)]; exact hsen
  obtain ⟨tyC, dC, hdC, hdnC⟩ := Cond.laysAt hfound hk Y.cause (a' (.lays Bundle.nN Bundle.tN "cause" "Ljava/lang/Throwable;") (by simp [Bundle.npeArmAtoms]))
  obtain ⟨tyS, dS, hdS, hdnS⟩ := Cond.laysAt hfound hk Y.stack (a' (.lays Bundle.nN Bundle.tN "stackTrace" Bundle.steD) (by simp [Bundle.npeArmAtoms]))
  obtain ⟨tyP, dP, hdP, hdnP⟩ := Cond.laysAt hfound hk Y.supp (a' (.lays Bundle.nN Bundle.tN "suppressedExceptions" Bundle.listD) (by simp [Bundle.npeArmAtoms]))
  obtain ⟨tyX, dX, hdX, hdnX⟩ := Cond.laysAt hfound hk hffS (a' (.lays Bundle.nN Bundle.nN "extendedMessageState" "I") (by simp [Bundle.npeArmAtoms, Bundle.npeAtoms]))
  obtain ⟨hnX, htX⟩ := State.fieldFound?_type hffS (t := .int) (by decide +kernel)
  have xC := Cond.laysApart hdC hdX hdnC hdnX (by rw [hnX, Y.causeName]; decide)
  have xS := Cond.laysApart hdS hdX hdnS hdnX (by rw [hnX, Y.stackName]; decide)
  have xP := Cond.laysApart hdP hdX hdnP hdnX (by rw [hnX, Y.suppName]; decide)
  have hv0 : (freshCell P1.m.cls N.kN).slots[N.fState.slot]? = some (.int 0) := by
    have := fresh_default (c := P1.m.cls) tyX
    rw [htX] at this; exact this
  obtain ⟨tyB, dB, hdB, hdnB⟩ := Cond.laysAt hfound hk hffB (a' (.lays Bundle.nN Bundle.tN "backtrace" Bundle.objD) (by simp [Bundle.npeArmAtoms]))
  have bC := Cond.laysApart hdB hdC hdnB hdnC (by rw [hnB, Y.causeName]; decide)
  have bS := Cond.laysApart hdB hdS hdnB hdnS (by rw [hnB, Y.stackName]; decide)
  have bP := Cond.laysApart hdB hdP hdnB hdnP (by rw [hnB, Y.suppName]; decide)
  have bX := Cond.laysApart hdB hdX hdnB hdnX (by rw [hnB, hnX]; decide)
  have hbk : ((npeCell N.toNpeT (preparedCellV T.toThrowableT (freshCell P1.m.cls N.kN) W.heap.size u0 sen) W.cur).withEntry W.cur).slots[fB.slot]? = some .null := by
    have := fresh_default (c := P1.m.cls) tyB
    rw [htB] at this
    simpa [npeCell, preparedCellV, Cell.setSlot, Cell.withEntry, Array.getElem?_setIfInBounds, bC, bS, bP, bX, bC.symm, bS.symm, bP.symm, bX.symm, defaultValue] using this
  have tkC := Takes.of_laid (v := .ref W.heap.size) hk hordN tyC (by rw [Y.causeType]; rfl)
  have tkS := Takes.of_laid (v := u0.v) hk hordN tyS (by rw [Y.stackType]; exact fits_refV_array _ u0)
  have tkP := Takes.of_laid (v := sen.v) hk hordN tyP (by rw [Y.suppType]; exact fits_refV_object _ sen)
  have tkX := Takes.of_laid (v := .int 1) hk hordN tyX (by rw [htX]; rfl)
  have hskip : SkipFacts T e.platform s (fun u => u) u0 ((npeCell N.toNpeT (preparedCellV T.toThrowableT (freshCell P1.m.cls N.kN) W.heap.size u0 sen) W.cur).withEntry W.cur) := ⟨{ ci198 := ci198, i198 := i198, fBack := fB }, ⟨hk198, hg198, ha198, hsB⟩, hbk, fun _ _ => rfl⟩
  obtain ⟨vm', X3, st, -⟩ := X.throwsNpeColdBareVAt hexec hg hsize T L Z LZ N LN P1 L1 [PR, PE] hLs hlink1 ⟨hlinkR, hlinkE, trivial⟩ hfound hk hinit hordN hctor hsel0 hselF hcellS hknownS hvU hvSen
    hv0 xC xS xP tkC tkS tkP tkX Y.objLocals hskip (fun _ _ hA hW _ hroom _ hrest => L.nativeOff p htr hA hW hroom hrest) (by simpa using hRframes) hRlocals (by simp) hRcells (by rw [hn]; exact hRslots)
  have hlt : W.heap.size < ((W.pushCell (freshCell P1.m.cls N.kN)).setVm vm').heap.size := by
    show W.heap.size < (W.pushCell (freshCell P1.m.cls N.kN)).heap.size
    rw [State.heap_size_pushCell]; omega
  rw [hfsz] at X3
  obtain ⟨g₁, hfrM⟩ := X3.frames_eq
  have hU : ((((W.pushCell (freshCell P1.m.cls N.kN)).setVm vm').setCell W.heap.size (npeBareV T.toThrowableT N.toNpeT (freshCell P1.m.cls N.kN) W.heap.size u0 sen)).setTop g).pushFrame (.throwing W.heap.size) = (((W.pushCell (freshCell P1.m.cls N.kN)).setVm vm').setCell W.heap.size (npeBareV T.toThrowableT N.toNpeT (freshCell P1.m.cls N.kN) W.heap.size u0 sen)).setFrames (.throwing W.heap.size :: .java g :: below) := by
    rw [State.pushFrame, State.frames_setTop _ hfrM, State.setTop_of_frames _ hfrM, State.setFrames_setFrames]
  refine ⟨_, W.heap.size, _, fun target ht => st.trans (by rw [← hU]; exact ht), X3.forget (fun y hy => ?_), heapAt_setCell_self _ hlt, hfound, rfl⟩
  simp only [List.mem_cons, List.not_mem_nil, or_false] at hy
  have hge : s.heap.size ≤ W.heap.size := X.same.2.1
  rcases hy with rfl | rfl | rfl | rfl | rfl <;> exact hge
/-- the words of a machine's NullPointerException, but the four that speak of the heap -/
def vx_atN (n : Nat) : List Cond := (Bundle.npeArmAtoms n).filter vx_no
/-- the words of a machine's throw with a message, but the four that speak of the heap -/
def vx_atM (X : String) (names : List String) : List Cond := (Bundle.messageArmAtoms X names).filter vx_no
section
variable {p : Program} {l : Launch} {e : Env} {R : Room} {s : State} {m : MethodId} {args : Array Value} {below : List Frame} {meth : Method} {c : Code} {H : Heap} {locs : List Loc} {cells slots : Nat}
/-- a frame seen from a rebased start, seen from the first start again -/
theorem vx_back9 {T S : State} {R' : Room} {k n : Nat} (X : Stand p l e R s m args below meth c T locs cells slots) (Y : Stand p l e R' ((T.setVm s.vm).setFrames (.invoking m args :: below)) m args below meth c T [] 0 0) (Z : Stand p l e R' ((T.setVm s.vm).setFrames (.invoking m args :: below)) m args below meth c S [] k n) :
    Stand p l e R s m args below meth c S locs (cells + k) (slots + n) := by
  have hW0 : s.WarmedH ((T.setVm s.vm).setFrames (.invoking m args :: below)).vm := State.WarmedH.refl s
  refine { admits := X.admits, cas := X.cas, clock := X.clock, frames := X.frames, room := X.room, hears := X.hears, method := X.method, code := X.code, here := Z.here, tail := Z.tail, warmed := State.WarmedH.trans hW0 Z.warmed, limits := Z.limits.trans (Y.limits.symm.trans X.limits), bytes := Z.bytes.trans (Y.bytes.symm.trans X.bytes), same := ?_ }
  obtain ⟨e1, e2⟩ := Z.same
  rw [State.setFrames_setFrames] at e1
  have h2 : (T.setVm s.vm).sameButNew (S.setVm s.vm) [] k n := ⟨e1, e2⟩
  have h3 := X.same.trans h2
  rw [List.append_nil] at h3
  exact h3
/-- from the machine's note that E is thrown here with this text -/
def vx_Note (p : Program) (l : Launch) (e : Env) (R : Room) (s : State) (m : MethodId) (args : Array Value) (below : List Frame) (meth : Method) (c : Code) (H : Heap) (locs : List Loc) (cells slots : Nat) (Q : State → Prop) (g : JFrame) (E text : String) : Prop :=
  ∀ T : State, T.heap = H → Stand p l e R s m args below meth c T locs cells slots → ∃ t, Steps p.tables e below ((T.setTop g).pushFrame (.throwNew E (some text) none)) t ∧ Q t
theorem vx_vm {pc : Nat} {ls : Array Slot} {rest : List Value} {Q : State → Prop} (hexec : p.tables.exec = Jvm.exec) (hl : l.stackTraces = false) {cls text : String} {names : List String} {nb : Nat} {A : Nat → Prop}
    (hcls : Bundle.fit cls = true) (hnames : ∀ n ∈ names, Bundle.fit n = true) (hsoe : (cls == "java/lang/StackOverflowError") = false) (hoom : (cls == "java/lang/OutOfMemoryError") = false)
    (hat : ∀ w ∈ vx_atM cls names, w.before args s = true) (hgood : ∀ w ∈ vx_atM cls names, vx_ot w = true)
    (hU : vx_Zq Bundle.tN "UNASSIGNED_STACK" Bundle.steD A s s.heap) (hN : vx_Zq Bundle.tN "SUPPRESSED_SENTINEL" Bundle.listD A s s.heap) (hS : va_S A s.heap H locs) (hsize : ls.size = c.maxLocals)
    (htext : (text == notModelled) = false) (hnb : (stringBytes (stringToUtf16 text)).size ≤ nb) (hnb1 : nb ≤ 1000)
    (hRframes : names.length + 4 < R.frames) (hRlocals : (rest.map fun v => v.category).sum + 10240 ≤ R.locals) (hshort : 13 * names.length + 55 ≤ 10240) (hRcells : cells + 3 ≤ R.cells) (hRslots : slots + (nb + 10) ≤ R.slots) (hlocks : meth.locks = false)
    (k : ∀ (H1 : Heap) (q9 : Addr) (ce : Cell), H.size ≤ H1.size → (∀ q : Nat, q < H.size → H1[q]? = H[q]?) → va_S A s.heap H1 locs → H1[q9]? = some ce → ce.vm = .none → s.vm.findClass cls = some ce.cls → vx_W p l e R s m args below meth c H1 locs (cells + 3) (slots + (nb + 10)) Q (F0 m pc ls rest) q9) :
    vx_Note p l e R s m args below meth c H locs cells slots Q (F0 m pc ls rest) cls text := by
  intro T hT X
  have htr : e.platform.stackTraces = false := (show e.platform.stackTraces = l.stackTraces by rw [X.admits.platform]).trans hl
  have Y := vx_rebase X (R' := { frames := R.frames, locals := R.locals, cells := 3, slots := nb + 10 }) (Nat.le_refl _) (Nat.le_refl _) hRcells hRslots
  have hhp : ((T.setVm s.vm).setFrames (.invoking m args :: below)).heap = H := hT
  have hW0 : s.WarmedH ((T.setVm s.vm).setFrames (.invoking m args :: below)).vm := State.WarmedH.refl s
  have hat' : ∀ w ∈ vx_atM cls names, w.before args ((T.setVm s.vm).setFrames (.invoking m args :: below)) = true := fun w hw => vx_ot_at hW0 rfl (hgood w hw) (hat w hw)
  have hU' : vx_Zq Bundle.tN "UNASSIGNED_STACK" Bundle.steD A ((T.setVm s.vm).setFrames (.invoking m args :: below)) ((T.setVm s.vm).setFrames (.invoking m args :: below)).heap := by rw [hhp]; exact vx_Zq.moved hW0.alike (hU.kept hS.2.1)
  have hN' : vx_Zq Bundle.tN "SUPPRESSED_SENTINEL" Bundle.listD A ((T.setVm s.vm).setFrames (.invoking m args :: below)) ((T.setVm s.vm).setFrames (.invoking m args :: below)).heap := by rw [hhp]; exact vx_Zq.moved hW0.alike (hN.kept hS.2.1)
  obtain ⟨S, q, ce, st, Z, hce, hcl', hv⟩ := vx_vmAt Y hexec htr (cls := cls) (names := names) (text := text) hcls hnames hsoe hoom (vx_own hat' (vx_isRefq hU'.1) (vx_isRefq hN'.1) hU'.2.word hN'.2.word) (fun x hx => nomatch hx) htext
    (by rw [Launch.admits_arrayLengthLimit X.admits]; omega) (by rw [Launch.admits_maxHeapBytes X.admits]; simp only [componentBytes]; omega)
    (g := F0 m pc ls rest) rfl hsize hRframes (by show 2 * 0 + (rest.map fun v => v.category).sum + 10240 ≤ R.locals; omega) hshort (by show 0 + 3 ≤ 3; omega) (by show 0 + (_ + 4 + 6) ≤ nb + 10; omega) hlocks
  obtain ⟨f1, f2⟩ := vx_frame Z.same
  have f1' : H.size ≤ S.heap.size := by rw [← hT]; exact f1
  have f2' : ∀ q : Nat, q < H.size → S.heap[q]? = H[q]? := fun q hq => by
    rw [← hT]
    exact f2 q (by rw [← hT] at hq; exact hq) (fun z hz => nomatch hz)
  have X5 := vx_back9 X Y Z
  have X6 : Stand p l e R s m args below meth c S locs (cells + 3) (slots + (nb + 10)) := { X5 with same := X5.same.mono (by omega) (by omega) }
  obtain ⟨t, a1, b1⟩ := k S.heap q ce f1' f2' ⟨Nat.le_trans hS.1 f1', fun q h1 h2 => (f2' q (Nat.lt_of_lt_of_le h1 hS.1)).trans (hS.2.1 q h1 h2), hS.2.2⟩ hce hv hcl' S rfl X6
  exact ⟨t, st t a1, b1⟩
/-- from the machine's note that NullPointerException is thrown here -/
def vx_NoteN (p : Program) (l : Launch) (e : Env) (R : Room) (s : State) (m : MethodId) (args : Array Value) (below : List Frame) (meth : Method) (c : Code) (H : Heap) (locs : List Loc) (cells slots : Nat) (Q : State → Prop) (g : JFrame) : Prop :=
  ∀ T : State, T.heap = H → Stand p l e R s m args below meth c T locs cells slots → ∃ t, Steps p.tables e below ((T.setTop g).pushFrame (.throwNew "java/lang/NullPointerException" none none)) t ∧ Q t
theorem vx_npe {pc : Nat} {ls : Array Slot} {rest : List Value} {Q : State → Prop} (hexec : p.tables.exec = Jvm.exec) (hl : l.stackTraces = false) {nb : Nat} {A : Nat → Prop}
    (hat : ∀ w ∈ vx_atN nb, w.before args s = true) (hgood : ∀ w ∈ vx_atN nb, vx_ot w = true)
    (hU : vx_Zq Bundle.tN "UNASSIGNED_STACK" Bundle.steD A s s.heap) (hN : vx_Zq Bundle.tN "SUPPRESSED_SENTINEL" Bundle.listD A s s.heap) (hS : va_S A s.heap H locs) (hsize : ls.size = c.maxLocals)
    (hRframes : 7 < R.frames) (hRlocals : (rest.map fun v => v.category).sum + 10240 ≤ R.locals) (hRcells : cells + 1 ≤ R.cells) (hRslots : slots + nb ≤ R.slots) (hlocks : meth.locks = false)
    (k : ∀ (H1 : Heap) (q9 : Addr) (ce : Cell), H.size ≤ H1.size → (∀ q : Nat, q < H.size → H1[q]? = H[q]?) → va_S A s.heap H1 locs → H1[q9]? = some ce → ce.vm = .none → s.vm.findClass "java/lang/NullPointerException" = some ce.cls → vx_W p l e R s m args below meth c H1 locs (cells + 1) (slots + nb) Q (F0 m pc ls rest) q9) :
    vx_NoteN p l e R s m args below meth c H locs cells slots Q (F0 m pc ls rest) := by
  intro T hT X
  have htr : e.platform.stackTraces = false := (show e.platform.stackTraces = l.stackTraces by rw [X.admits.platform]).trans hl
  have Y := vx_rebase X (R' := { frames := R.frames, locals := R.locals, cells := 1, slots := nb }) (Nat.le_refl _) (Nat.le_refl _) hRcells hRslots
  have hhp : ((T.setVm s.vm).setFrames (.invoking m args :: below)).heap = H := hT
  have hW0 : s.WarmedH ((T.setVm s.vm).setFrames (.invoking m args :: below)).vm := State.WarmedH.refl s
  have hat' : ∀ w ∈ vx_atN nb, w.before args ((T.setVm s.vm).setFrames (.invoking m args :: below)) = true := fun w hw => vx_ot_at hW0 rfl (hgood w hw) (hat w hw)
  have hU' : vx_Zq Bundle.tN "UNASSIGNED_STACK" Bundle.steD A ((T.setVm s.vm).setFrames (.invoking m args :: below)) ((T.setVm s.vm).setFrames (.invoking m args :: below)).heap := by rw [hhp]; exact vx_Zq.moved hW0.alike (hU.kept hS.2.1)
  have hN' : vx_Zq Bundle.tN "SUPPRESSED_SENTINEL" Bundle.listD A ((T.setVm s.vm).setFrames (.invoking m args :: below)) ((T.setVm s.vm).setFrames (.invoking m args :: below)).heap := by rw [hhp]; exact vx_Zq.moved hW0.alike (hN.kept hS.2.1)
  obtain ⟨S, q, ce, st, Z, hce, hcl', hv⟩ := vx_npeAt Y hexec htr (n := nb) (vx_own hat' (vx_isRefq hU'.1) (vx_isRefq hN'.1) hU'.2.word hN'.2.word) (fun x hx => nomatch hx)
    (g := F0 m pc ls rest) rfl hsize hRframes (by show 2 * 0 + (rest.map fun v => v.category).sum + 10240 ≤ R.locals; omega) (by show 0 + 1 ≤ 1; omega) (by show 0 + nb ≤ nb; omega) hlocks
  obtain ⟨f1, f2⟩ := vx_frame Z.same
  have f1' : H.size ≤ S.heap.size := by rw [← hT]; exact f1
  have f2' : ∀ q : Nat, q < H.size → S.heap[q]? = H[q]? := fun q hq => by
    rw [← hT]
    exact f2 q (by rw [← hT] at hq; exact hq) (fun z hz => nomatch hz)
  have X5 := vx_back9 X Y Z
  have X6 : Stand p l e R s m args below meth c S locs (cells + 1) (slots + nb) := { X5 with same := X5.same.mono (by omega) (by omega) }
  obtain ⟨t, a1, b1⟩ := k S.heap q ce f1' f2' ⟨Nat.le_trans hS.1 f1', fun q h1 h2 => (f2' q (Nat.lt_of_lt_of_le h1 hS.1)).trans (hS.2.1 q h1 h2), hS.2.2⟩ hce hv hcl' S rfl X6
  exact ⟨t, st t a1, b1⟩
variable {Q : State → Prop} {cc : ByteArray} {pc : Nat} {ls : Array Slot} {rest : List Value}
theorem vx_idivZ (hexec : p.tables.exec = Jvm.exec) (hb : c.code = cc) {a b : Int32} (h0 : b = 0) (d : decode cc pc = .ok (.idiv, 1)) (k : vx_Note p l e R s m args below meth c H locs cells slots Q (F0 m pc ls rest) "java/lang/ArithmeticException" "/ by zero") :
    W p l e R s m args below meth c H locs cells slots Q (F0 m pc ls (.int b :: .int a :: rest)) := by
  intro T hT X
  obtain ⟨t, st, q⟩ := k T hT X
  exact ⟨t, X.idivZero hexec (g := F0 m pc ls (.int b :: .int a :: rest)) rfl (a := a) (rest := rest) (by rw [h0]) (by rw [hb]; exact d) t st, q⟩
theorem vx_iremZ (hexec : p.tables.exec = Jvm.exec) (hb : c.code = cc) {a b : Int32} (h0 : b = 0) (d : decode cc pc = .ok (.irem, 1)) (k : vx_Note p l e R s m args below meth c H locs cells slots Q (F0 m pc ls rest) "java/lang/ArithmeticException" "/ by zero") :
    W p l e R s m args below meth c H locs cells slots Q (F0 m pc ls (.int b :: .int a :: rest)) := by
  intro T hT X
  obtain ⟨t, st, q⟩ := k T hT X
  exact ⟨t, X.iremZero hexec (g := F0 m pc ls (.int b :: .int a :: rest)) rfl (a := a) (rest := rest) (by rw [h0]) (by rw [hb]; exact d) t st, q⟩
theorem vx_ldivZ (hexec : p.tables.exec = Jvm.exec) (hb : c.code = cc) {a b : Int64} (h0 : b = 0) (d : decode cc pc = .ok (.ldiv, 1)) (k : vx_Note p l e R s m args below meth c H locs cells slots Q (F0 m pc ls rest) "java/lang/ArithmeticException" "/ by zero") :
    W p l e R s m args below meth c H locs cells slots Q (F0 m pc ls (.long b :: .long a :: rest)) := by
  intro T hT X
  obtain ⟨t, st, q⟩ := k T hT X
  exact ⟨t, X.ldivZero hexec (g := F0 m pc ls (.long b :: .long a :: rest)) rfl (a := a) (rest := rest) (by rw [h0]) (by rw [hb]; exact d) t st, q⟩
theorem vx_lremZ (hexec : p.tables.exec = Jvm.exec) (hb : c.code = cc) {a b : Int64} (h0 : b = 0) (d : decode cc pc = .ok (.lrem, 1)) (k : vx_Note p l e R s m args below meth c H locs cells slots Q (F0 m pc ls rest) "java/lang/ArithmeticException" "/ by zero") :
    W p l e R s m args below meth c H locs cells slots Q (F0 m pc ls (.long b :: .long a :: rest)) := by
  intro T hT X
  obtain ⟨t, st, q⟩ := k T hT X
  exact ⟨t, X.lremZero hexec (g := F0 m pc ls (.long b :: .long a :: rest)) rfl (a := a) (rest := rest) (by rw [h0]) (by rw [hb]; exact d) t st, q⟩
theorem vx_ialdZ {D : va_G} {cl : List vw_C} {ws : va_W} {tys : List (ClassId × FieldType)} {a : Nat} (hexec : p.tables.exec = Jvm.exec) (hb : c.code = cc) (hK : va_K D cl tys s) (hP : va_P D cl ws H) (q0 t0 : Nat) {cA : ClassId} {n : Nat} {f : Nat → Int32} (ha : ws[q0]? = some (a, .inl (cA, n, .inl f))) (ht : tys[t0]? = some (cA, .int)) {i : Int32} (hout : ¬ vp_in i n) (hdg : decode cc pc = .ok (.iaload, 1))
    (k : ∀ tx : String, tx = (toString "Index " ++ toString i ++ toString " out of bounds for length " ++ toString n : String) → vx_Note p l e R s m args below meth c H locs cells slots Q (F0 m pc ls rest) "java/lang/ArrayIndexOutOfBoundsException" tx) : W p l e R s m args below meth c H locs cells slots Q (F0 m pc ls (.int i :: .ref a :: rest)) := by
  intro T hT X
  obtain ⟨t, st, q⟩ := k _ rfl T hT X
  refine ⟨t, ?_, q⟩
  have h1 := X.ialoadOut hexec (by rw [hT]; exact hP q0 _ ha) ((hK.2 t0 _ ht).1 n (fun j => .int (f j))) (j := i) (by show (i < 0 ∨ (arrV _ _ _).slots.size ≤ _); rw [arrV_size]; exact Classical.byContradiction hout) (g := F0 m pc ls (.int i :: .ref a :: rest)) rfl (rest := rest) rfl (by rw [hb]; exact hdg) t
  simp only [arrV_size] at h1
  exact h1 st
theorem vx_iastZ {D : va_G} {cl : List vw_C} {ws : va_W} {tys : List (ClassId × FieldType)} {a : Nat} (hexec : p.tables.exec = Jvm.exec) (hb : c.code = cc) (hK : va_K D cl tys s) (hP : va_P D cl ws H) (q0 t0 : Nat) {cA : ClassId} {n : Nat} {f : Nat → Int32} (ha : ws[q0]? = some (a, .inl (cA, n, .inl f))) (ht : tys[t0]? = some (cA, .int)) {i : Int32} {x : Int32} (hout : ¬ vp_in i n) (hdg : decode cc pc = .ok (.iastore, 1))
    (k : ∀ tx : String, tx = (toString "Index " ++ toString i ++ toString " out of bounds for length " ++ toString n : String) → vx_Note p l e R s m args below meth c H locs cells slots Q (F0 m pc ls rest) "java/lang/ArrayIndexOutOfBoundsException" tx) : W p l e R s m args below meth c H locs cells slots Q (F0 m pc ls (.int x :: .int i :: .ref a :: rest)) := by
  intro T hT X
  obtain ⟨t, st, q⟩ := k _ rfl T hT X
  refine ⟨t, ?_, q⟩
  have h1 := X.iastoreOut hexec (by rw [hT]; exact hP q0 _ ha) ((hK.2 t0 _ ht).1 n (fun j => .int (f j))) (j := i) (by show (i < 0 ∨ (arrV _ _ _).slots.size ≤ _); rw [arrV_size]; exact Classical.byContradiction hout) (g := F0 m pc ls (.int x :: .int i :: .ref a :: rest)) rfl (rest := rest) rfl (by rw [hb]; exact hdg) t
  simp only [arrV_size] at h1
  exact h1 st
theorem vx_baldZ {D : va_G} {cl : List vw_C} {ws : va_W} {tys : List (ClassId × FieldType)} {a : Nat} (hexec : p.tables.exec = Jvm.exec) (hb : c.code = cc) (hK : va_K D cl tys s) (hP : va_P D cl ws H) (q0 t0 : Nat) {cA : ClassId} {n : Nat} {f : Nat → Int32} (ha : ws[q0]? = some (a, .inl (cA, n, .inl f))) (ht : tys[t0]? = some (cA, .byte)) {i : Int32} (hout : ¬ vp_in i n) (hdg : decode cc pc = .ok (.baload, 1))
    (k : ∀ tx : String, tx = (toString "Index " ++ toString i ++ toString " out of bounds for length " ++ toString n : String) → vx_Note p l e R s m args below meth c H locs cells slots Q (F0 m pc ls rest) "java/lang/ArrayIndexOutOfBoundsException" tx) : W p l e R s m args below meth c H locs cells slots Q (F0 m pc ls (.int i :: .ref a :: rest)) := by
  intro T hT X
  obtain ⟨t, st, q⟩ := k _ rfl T hT X
  refine ⟨t, ?_, q⟩
  have h1 := X.baloadOut hexec (by rw [hT]; exact hP q0 _ ha) ((hK.2 t0 _ ht).1 n (fun j => .int (f j))) (j := i) (by show (i < 0 ∨ (arrV _ _ _).slots.size ≤ _); rw [arrV_size]; exact Classical.byContradiction hout) (g := F0 m pc ls (.int i :: .ref a :: rest)) rfl (rest := rest) rfl (by rw [hb]; exact hdg) t
  simp only [arrV_size] at h1
  exact h1 st
theorem vx_bastZ {D : va_G} {cl : List vw_C} {ws : va_W} {tys : List (ClassId × FieldType)} {a : Nat} (hexec : p.tables.exec = Jvm.exec) (hb : c.code = cc) (hK : va_K D cl tys s) (hP : va_P D cl ws H) (q0 t0 : Nat) {cA : ClassId} {n : Nat} {f : Nat → Int32} (ha : ws[q0]? = some (a, .inl (cA, n, .inl f))) (ht : tys[t0]? = some (cA, .byte)) {i : Int32} {x : Int32} (hout : ¬ vp_in i n) (hdg : decode cc pc = .ok (.bastore, 1))
    (k : ∀ tx : String, tx = (toString "Index " ++ toString i ++ toString " out of bounds for length " ++ toString n : String) → vx_Note p l e R s m args below meth c H locs cells slots Q (F0 m pc ls rest) "java/lang/ArrayIndexOutOfBoundsException" tx) : W p l e R s m args below meth c H locs cells slots Q (F0 m pc ls (.int x :: .int i :: .ref a :: rest)) := by
  intro T hT X
  obtain ⟨t, st, q⟩ := k _ rfl T hT X
  refine ⟨t, ?_, q⟩
  have h1 := X.bastoreOut hexec (by rw [hT]; exact hP q0 _ ha) ((hK.2 t0 _ ht).1 n (fun j => .int (f j))) (j := i) (by show (i < 0 ∨ (arrV _ _ _).slots.size ≤ _); rw [arrV_size]; exact Classical.byContradiction hout) (g := F0 m pc ls (.int x :: .int i :: .ref a :: rest)) rfl (rest := rest) rfl (by rw [hb]; exact hdg) t
  simp only [arrV_size] at h1
  exact h1 st
theorem vx_zaldZ {D : va_G} {cl : List vw_C} {ws : va_W} {tys : List (ClassId × FieldType)} {a : Nat} (hexec : p.tables.exec = Jvm.exec) (hb : c.code = cc) (hK : va_K D cl tys s) (hP : va_P D cl ws H) (q0 t0 : Nat) {cA : ClassId} {n : Nat} {f : Nat → Int32} (ha : ws[q0]? = some (a, .inl (cA, n, .inl f))) (ht : tys[t0]? = some (cA, .boolean)) {i : Int32} (hout : ¬ vp_in i n) (hdg : decode cc pc = .ok (.baload, 1))
    (k : ∀ tx : String, tx = (toString "Index " ++ toString i ++ toString " out of bounds for length " ++ toString n : String) → vx_Note p l e R s m args below meth c H locs cells slots Q (F0 m pc ls rest) "java/lang/ArrayIndexOutOfBoundsException" tx) : W p l e R s m args below meth c H locs cells slots Q (F0 m pc ls (.int i :: .ref a :: rest)) := by
  intro T hT X
  obtain ⟨t, st, q⟩ := k _ rfl T hT X
  refine ⟨t, ?_, q⟩
  have h1 := X.baloadOut hexec (by rw [hT]; exact hP q0 _ ha) ((hK.2 t0 _ ht).1 n (fun j => .int (f j))) (j := i) (by show (i < 0 ∨ (arrV _ _ _).slots.size ≤ _); rw [arrV_size]; exact Classical.byContradiction hout) (g := F0 m pc ls (.int i :: .ref a :: rest)) rfl (rest := rest) rfl (by rw [hb]; exact hdg) t
  simp only [arrV_size] at h1
  exact h1 st
theorem vx_zastZ {D : va_G} {cl : List vw_C} {ws : va_W} {tys : List (ClassId × FieldType)} {a : Nat} (hexec : p.tables.exec = Jvm.exec) (hb : c.code = cc) (hK : va_K D cl tys s) (hP : va_P D cl ws H) (q0 t0 : Nat) {cA : ClassId} {n : Nat} {f : Nat → Int32} (ha : ws[q0]? = some (a, .inl (cA, n, .inl f))) (ht : tys[t0]? = some (cA, .boolean)) {i : Int32} {x : Int32} (hout : ¬ vp_in i n) (hdg : decode cc pc = .ok (.bastore, 1))
    (k : ∀ tx : String, tx = (toString "Index " ++ toString i ++ toString " out of bounds for length " ++ toString n : String) → vx_Note p l e R s m args below meth c H locs cells slots Q (F0 m pc ls rest) "java/lang/ArrayIndexOutOfBoundsException" tx) : W p l e R s m args below meth c H locs cells slots Q (F0 m pc ls (.int x :: .int i :: .ref a :: rest)) := by
  intro T hT X
  obtain ⟨t, st, q⟩ := k _ rfl T hT X
  refine ⟨t, ?_, q⟩
  have h1 := X.bastoreOut hexec (by rw [hT]; exact hP q0 _ ha) ((hK.2 t0 _ ht).1 n (fun j => .int (f j))) (j := i) (by show (i < 0 ∨ (arrV _ _ _).slots.size ≤ _); rw [arrV_size]; exact Classical.byContradiction hout) (g := F0 m pc ls (.int x :: .int i :: .ref a :: rest)) rfl (rest := rest) rfl (by rw [hb]; exact hdg) t
  simp only [arrV_size] at h1
  exact h1 st
theorem vx_caldZ {D : va_G} {cl : List vw_C} {ws : va_W} {tys : List (ClassId × FieldType)} {a : Nat} (hexec : p.tables.exec = Jvm.exec) (hb : c.code = cc) (hK : va_K D cl tys s) (hP : va_P D cl ws H) (q0 t0 : Nat) {cA : ClassId} {n : Nat} {f : Nat → Int32} (ha : ws[q0]? = some (a, .inl (cA, n, .inl f))) (ht : tys[t0]? = some (cA, .char)) {i : Int32} (hout : ¬ vp_in i n) (hdg : decode cc pc = .ok (.caload, 1))
    (k : ∀ tx : String, tx = (toString "Index " ++ toString i ++ toString " out of bounds for length " ++ toString n : String) → vx_Note p l e R s m args below meth c H locs cells slots Q (F0 m pc ls rest) "java/lang/ArrayIndexOutOfBoundsException" tx) : W p l e R s m args below meth c H locs cells slots Q (F0 m pc ls (.int i :: .ref a :: rest)) := by
  intro T hT X
  obtain ⟨t, st, q⟩ := k _ rfl T hT X
  refine ⟨t, ?_, q⟩
  have h1 := X.caloadOut hexec (by rw [hT]; exact hP q0 _ ha) ((hK.2 t0 _ ht).1 n (fun j => .int (f j))) (j := i) (by show (i < 0 ∨ (arrV _ _ _).slots.size ≤ _); rw [arrV_size]; exact Classical.byContradiction hout) (g := F0 m pc ls (.int i :: .ref a :: rest)) rfl (rest := rest) rfl (by rw [hb]; exact hdg) t
  simp only [arrV_size] at h1
  exact h1 st
theorem vx_castZ {D : va_G} {cl : List vw_C} {ws : va_W} {tys : List (ClassId × FieldType)} {a : Nat} (hexec : p.tables.exec = Jvm.exec) (hb : c.code = cc) (hK : va_K D cl tys s) (hP : va_P D cl ws H) (q0 t0 : Nat) {cA : ClassId} {n : Nat} {f : Nat → Int32} (ha : ws[q0]? = some (a, .inl (cA, n, .inl f))) (ht : tys[t0]? = some (cA, .char)) {i : Int32} {x : Int32} (hout : ¬ vp_in i n) (hdg : decode cc pc = .ok (.castore, 1))
    (k : ∀ tx : String, tx = (toString "Index " ++ toString i ++ toString " out of bounds for length " ++ toString n : String) → vx_Note p l e R s m args below meth c H locs cells slots Q (F0 m pc ls rest) "java/lang/ArrayIndexOutOfBoundsException" tx) : W p l e R s m args below meth c H locs cells slots Q (F0 m pc ls (.int x :: .int i :: .ref a :: rest)) := by
  intro T hT X
  obtain ⟨t, st, q⟩ := k _ rfl T hT X
  refine ⟨t, ?_, q⟩
  have h1 := X.castoreOut hexec (by rw [hT]; exact hP q0 _ ha) ((hK.2 t0 _ ht).1 n (fun j => .int (f j))) (j := i) (by show (i < 0 ∨ (arrV _ _ _).slots.size ≤ _); rw [arrV_size]; exact Classical.byContradiction hout) (g := F0 m pc ls (.int x :: .int i :: .ref a :: rest)) rfl (rest := rest) rfl (by rw [hb]; exact hdg) t
  simp only [arrV_size] at h1
  exact h1 st
theorem vx_saldZ {D : va_G} {cl : List vw_C} {ws : va_W} {tys : List (ClassId × FieldType)} {a : Nat} (hexec : p.tables.exec = Jvm.exec) (hb : c.code = cc) (hK : va_K D cl tys s) (hP : va_P D cl ws H) (q0 t0 : Nat) {cA : ClassId} {n : Nat} {f : Nat → Int32} (ha : ws[q0]? = some (a, .inl (cA, n, .inl f))) (ht : tys[t0]? = some (cA, .short)) {i : Int32} (hout : ¬ vp_in i n) (hdg : decode cc pc = .ok (.saload, 1))
    (k : ∀ tx : String, tx = (toString "Index " ++ toString i ++ toString " out of bounds for length " ++ toString n : String) → vx_Note p l e R s m args below meth c H locs cells slots Q (F0 m pc ls rest) "java/lang/ArrayIndexOutOfBoundsException" tx) : W p l e R s m args below meth c H locs cells slots Q (F0 m pc ls (.int i :: .ref a :: rest)) := by
  intro T hT X
  obtain ⟨t, st, q⟩ := k _ rfl T hT X
  refine ⟨t, ?_, q⟩
  have h1 := X.saloadOut hexec (by rw [hT]; exact hP q0 _ ha) ((hK.2 t0 _ ht).1 n (fun j => .int (f j))) (j := i) (by show (i < 0 ∨ (arrV _ _ _).slots.size ≤ _); rw [arrV_size]; exact Classical.byContradiction hout) (g := F0 m pc ls (.int i :: .ref a :: rest)) rfl (rest := rest) rfl (by rw [hb]; exact hdg) t
  simp only [arrV_size] at h1
  exact h1 st
theorem vx_sastZ {D : va_G} {cl : List vw_C} {ws : va_W} {tys : List (ClassId × FieldType)} {a : Nat} (hexec : p.tables.exec = Jvm.exec) (hb : c.code = cc) (hK : va_K D cl tys s) (hP : va_P D cl ws H) (q0 t0 : Nat) {cA : ClassId} {n : Nat} {f : Nat → Int32} (ha : ws[q0]? = some (a, .inl (cA, n, .inl f))) (ht : tys[t0]? = some (cA, .short)) {i : Int32} {x : Int32} (hout : ¬ vp_in i n) (hdg : decode cc pc = .ok (.sastore, 1))
    (k : ∀ tx : String, tx = (toString "Index " ++ toString i ++ toString " out of bounds for length " ++ toString n : String) → vx_Note p l e R s m args below meth c H locs cells slots Q (F0 m pc ls rest) "java/lang/ArrayIndexOutOfBoundsException" tx) : W p l e R s m args below meth c H locs cells slots Q (F0 m pc ls (.int x :: .int i :: .ref a :: rest)) := by
  intro T hT X
  obtain ⟨t, st, q⟩ := k _ rfl T hT X
  refine ⟨t, ?_, q⟩
  have h1 := X.sastoreOut hexec (by rw [hT]; exact hP q0 _ ha) ((hK.2 t0 _ ht).1 n (fun j => .int (f j))) (j := i) (by show (i < 0 ∨ (arrV _ _ _).slots.size ≤ _); rw [arrV_size]; exact Classical.byContradiction hout) (g := F0 m pc ls (.int x :: .int i :: .ref a :: rest)) rfl (rest := rest) rfl (by rw [hb]; exact hdg) t
  simp only [arrV_size] at h1
  exact h1 st
theorem vx_laldZ {D : va_G} {cl : List vw_C} {ws : va_W} {tys : List (ClassId × FieldType)} {a : Nat} (hexec : p.tables.exec = Jvm.exec) (hb : c.code = cc) (hK : va_K D cl tys s) (hP : va_P D cl ws H) (q0 t0 : Nat) {cA : ClassId} {n : Nat} {f : Nat → Int64} (ha : ws[q0]? = some (a, .inl (cA, n, .inr (.inl f)))) (ht : tys[t0]? = some (cA, .long)) {i : Int32} (hout : ¬ vp_in i n) (hdg : decode cc pc = .ok (.laload, 1))
    (k : ∀ tx : String, tx = (toString "Index " ++ toString i ++ toString " out of bounds for length " ++ toString n : String) → vx_Note p l e R s m args below meth c H locs cells slots Q (F0 m pc ls rest) "java/lang/ArrayIndexOutOfBoundsException" tx) : W p l e R s m args below meth c H locs cells slots Q (F0 m pc ls (.int i :: .ref a :: rest)) := by
  intro T hT X
  obtain ⟨t, st, q⟩ := k _ rfl T hT X
  refine ⟨t, ?_, q⟩
  have h1 := X.laloadOut hexec (by rw [hT]; exact hP q0 _ ha) ((hK.2 t0 _ ht).1 n (fun j => .long (f j))) (j := i) (by show (i < 0 ∨ (arrV _ _ _).slots.size ≤ _); rw [arrV_size]; exact Classical.byContradiction hout) (g := F0 m pc ls (.int i :: .ref a :: rest)) rfl (rest := rest) rfl (by rw [hb]; exact hdg) t
  simp only [arrV_size] at h1
  exact h1 st
theorem vx_lastZ {D : va_G} {cl : List vw_C} {ws : va_W} {tys : List (ClassId × FieldType)} {a : Nat} (hexec : p.tables.exec = Jvm.exec) (hb : c.code = cc) (hK : va_K D cl tys s) (hP : va_P D cl ws H) (q0 t0 : Nat) {cA : ClassId} {n : Nat} {f : Nat → Int64} (ha : ws[q0]? = some (a, .inl (cA, n, .inr (.inl f)))) (ht : tys[t0]? = some (cA, .long)) {i : Int32} {x : Int64} (hout : ¬ vp_in i n) (hdg : decode cc pc = .ok (.lastore, 1))
    (k : ∀ tx : String, tx = (toString "Index " ++ toString i ++ toString " out of bounds for length " ++ toString n : String) → vx_Note p l e R s m args below meth c H locs cells slots Q (F0 m pc ls rest) "java/lang/ArrayIndexOutOfBoundsException" tx) : W p l e R s m args below meth c H locs cells slots Q (F0 m pc ls (.long x :: .int i :: .ref a :: rest)) := by
  intro T hT X
  obtain ⟨t, st, q⟩ := k _ rfl T hT X
  refine ⟨t, ?_, q⟩
  have h1 := X.lastoreOut hexec (by rw [hT]; exact hP q0 _ ha) ((hK.2 t0 _ ht).1 n (fun j => .long (f j))) (j := i) (by show (i < 0 ∨ (arrV _ _ _).slots.size ≤ _); rw [arrV_size]; exact Classical.byContradiction hout) (g := F0 m pc ls (.long x :: .int i :: .ref a :: rest)) rfl (rest := rest) rfl (by rw [hb]; exact hdg) t
  simp only [arrV_size] at h1
  exact h1 st
theorem vx_faldZ {D : va_G} {cl : List vw_C} {ws : va_W} {tys : List (ClassId × FieldType)} {a : Nat} (hexec : p.tables.exec = Jvm.exec) (hb : c.code = cc) (hK : va_K D cl tys s) (hP : va_P D cl ws H) (q0 t0 : Nat) {cA : ClassId} {n : Nat} {f : Nat → UInt32} (ha : ws[q0]? = some (a, .inl (cA, n, .inr (.inr (.inl f))))) (ht : tys[t0]? = some (cA, .float)) {i : Int32} (hout : ¬ vp_in i n) (hdg : decode cc pc = .ok (.faload, 1))
    (k : ∀ tx : String, tx = (toString "Index " ++ toString i ++ toString " out of bounds for length " ++ toString n : String) → vx_Note p l e R s m args below meth c H locs cells slots Q (F0 m pc ls rest) "java/lang/ArrayIndexOutOfBoundsException" tx) : W p l e R s m args below meth c H locs cells slots Q (F0 m pc ls (.int i :: .ref a :: rest)) := by
  intro T hT X
  obtain ⟨t, st, q⟩ := k _ rfl T hT X
  refine ⟨t, ?_, q⟩
  have h1 := X.faloadOut hexec (by rw [hT]; exact hP q0 _ ha) ((hK.2 t0 _ ht).1 n (fun j => .float (f j))) (j := i) (by show (i < 0 ∨ (arrV _ _ _).slots.size ≤ _); rw [arrV_size]; exact Classical.byContradiction hout) (g := F0 m pc ls (.int i :: .ref a :: rest)) rfl (rest := rest) rfl (by rw [hb]; exact hdg) t
  simp only [arrV_size] at h1
  exact h1 st
theorem vx_fastZ {D : va_G} {cl : List vw_C} {ws : va_W} {tys : List (ClassId × FieldType)} {a : Nat} (hexec : p.tables.exec = Jvm.exec) (hb : c.code = cc) (hK : va_K D cl tys s) (hP : va_P D cl ws H) (q0 t0 : Nat) {cA : ClassId} {n : Nat} {f : Nat → UInt32} (ha : ws[q0]? = some (a, .inl (cA, n, .inr (.inr (.inl f))))) (ht : tys[t0]? = some (cA, .float)) {i : Int32} {x : UInt32} (hout : ¬ vp_in i n) (hdg : decode cc pc = .ok (.fastore, 1))
    (k : ∀ tx : String, tx = (toString "Index " ++ toString i ++ toString " out of bounds for length " ++ toString n : String) → vx_Note p l e R s m args below meth c H locs cells slots Q (F0 m pc ls rest) "java/lang/ArrayIndexOutOfBoundsException" tx) : W p l e R s m args below meth c H locs cells slots Q (F0 m pc ls (.float x :: .int i :: .ref a :: rest)) := by
  intro T hT X
  obtain ⟨t, st, q⟩ := k _ rfl T hT X
  refine ⟨t, ?_, q⟩
  have h1 := X.fastoreOut hexec (by rw [hT]; exact hP q0 _ ha) ((hK.2 t0 _ ht).1 n (fun j => .float (f j))) (j := i) (by show (i < 0 ∨ (arrV _ _ _).slots.size ≤ _); rw [arrV_size]; exact Classical.byContradiction hout) (g := F0 m pc ls (.float x :: .int i :: .ref a :: rest)) rfl (rest := rest) rfl (by rw [hb]; exact hdg) t
  simp only [arrV_size] at h1
  exact h1 st
theorem vx_daldZ {D : va_G} {cl : List vw_C} {ws : va_W} {tys : List (ClassId × FieldType)} {a : Nat} (hexec : p.tables.exec = Jvm.exec) (hb : c.code = cc) (hK : va_K D cl tys s) (hP : va_P D cl ws H) (q0 t0 : Nat) {cA : ClassId} {n : Nat} {f : Nat → UInt64} (ha : ws[q0]? = some (a, .inl (cA, n, .inr (.inr (.inr (.inl f)))))) (ht : tys[t0]? = some (cA, .double)) {i : Int32} (hout : ¬ vp_in i n) (hdg : decode cc pc = .ok (.daload, 1))
    (k : ∀ tx : String, tx = (toString "Index " ++ toString i ++ toString " out of bounds for length " ++ toString n : String) → vx_Note p l e R s m args below meth c H locs cells slots Q (F0 m pc ls rest) "java/lang/ArrayIndexOutOfBoundsException" tx) : W p l e R s m args below meth c H locs cells slots Q (F0 m pc ls (.int i :: .ref a :: rest)) := by
  intro T hT X
  obtain ⟨t, st, q⟩ := k _ rfl T hT X
  refine ⟨t, ?_, q⟩
  have h1 := X.daloadOut hexec (by rw [hT]; exact hP q0 _ ha) ((hK.2 t0 _ ht).1 n (fun j => .double (f j))) (j := i) (by show (i < 0 ∨ (arrV _ _ _).slots.size ≤ _); rw [arrV_size]; exact Classical.byContradiction hout) (g := F0 m pc ls (.int i :: .ref a :: rest)) rfl (rest := rest) rfl (by rw [hb]; exact hdg) t
  simp only [arrV_size] at h1
  exact h1 st
theorem vx_dastZ {D : va_G} {cl : List vw_C} {ws : va_W} {tys : List (ClassId × FieldType)} {a : Nat} (hexec : p.tables.exec = Jvm.exec) (hb : c.code = cc) (hK : va_K D cl tys s) (hP : va_P D cl ws H) (q0 t0 : Nat) {cA : ClassId} {n : Nat} {f : Nat → UInt64} (ha : ws[q0]? = some (a, .inl (cA, n, .inr (.inr (.inr (.inl f)))))) (ht : tys[t0]? = some (cA, .double)) {i : Int32} {x : UInt64} (hout : ¬ vp_in i n) (hdg : decode cc pc = .ok (.dastore, 1))
    (k : ∀ tx : String, tx = (toString "Index " ++ toString i ++ toString " out of bounds for length " ++ toString n : String) → vx_Note p l e R s m args below meth c H locs cells slots Q (F0 m pc ls rest) "java/lang/ArrayIndexOutOfBoundsException" tx) : W p l e R s m args below meth c H locs cells slots Q (F0 m pc ls (.double x :: .int i :: .ref a :: rest)) := by
  intro T hT X
  obtain ⟨t, st, q⟩ := k _ rfl T hT X
  refine ⟨t, ?_, q⟩
  have h1 := X.dastoreOut hexec (by rw [hT]; exact hP q0 _ ha) ((hK.2 t0 _ ht).1 n (fun j => .double (f j))) (j := i) (by show (i < 0 ∨ (arrV _ _ _).slots.size ≤ _); rw [arrV_size]; exact Classical.byContradiction hout) (g := F0 m pc ls (.double x :: .int i :: .ref a :: rest)) rfl (rest := rest) rfl (by rw [hb]; exact hdg) t
  simp only [arrV_size] at h1
  exact h1 st
theorem vx_arraylengthN (hexec : p.tables.exec = Jvm.exec) (hb : c.code = cc) (hdg : decode cc pc = .ok (.arraylength, 1)) (k : vx_NoteN p l e R s m args below meth c H locs cells slots Q (F0 m pc ls rest)) : W p l e R s m args below meth c H locs cells slots Q (F0 m pc ls (.null :: rest)) := by
  intro T hT X
  obtain ⟨t, st, q⟩ := k T hT X
  exact ⟨t, X.arraylengthNull hexec (g := F0 m pc ls (.null :: rest)) rfl (rest := rest) rfl (by rw [hb]; exact hdg) t st, q⟩
theorem vx_ialoadN (hexec : p.tables.exec = Jvm.exec) (hb : c.code = cc) {i : Int32} (hdg : decode cc pc = .ok (.iaload, 1)) (k : vx_NoteN p l e R s m args below meth c H locs cells slots Q (F0 m pc ls rest)) : W p l e R s m args below meth c H locs cells slots Q (F0 m pc ls (.int i :: .null :: rest)) := by
  intro T hT X
  obtain ⟨t, st, q⟩ := k T hT X
  exact ⟨t, X.ialoadNull hexec (g := F0 m pc ls (.int i :: .null :: rest)) rfl (rest := rest) rfl (by rw [hb]; exact hdg) t st, q⟩
theorem vx_laloadN (hexec : p.tables.exec = Jvm.exec) (hb : c.code = cc) {i : Int32} (hdg : decode cc pc = .ok (.laload, 1)) (k : vx_NoteN p l e R s m args below meth c H locs cells slots Q (F0 m pc ls rest)) : W p l e R s m args below meth c H locs cells slots Q (F0 m pc ls (.int i :: .null :: rest)) := by
  intro T hT X
  obtain ⟨t, st, q⟩ := k T hT X
  exact ⟨t, X.laloadNull hexec (g := F0 m pc ls (.int i :: .null :: rest)) rfl (rest := rest) rfl (by rw [hb]; exact hdg) t st, q⟩
theorem vx_faloadN (hexec : p.tables.exec = Jvm.exec) (hb : c.code = cc) {i : Int32} (hdg : decode cc pc = .ok (.faload, 1)) (k : vx_NoteN p l e R s m args below meth c H locs cells slots Q (F0 m pc ls rest)) : W p l e R s m args below meth c H locs cells slots Q (F0 m pc ls (.int i :: .null :: rest)) := by
  intro T hT X
  obtain ⟨t, st, q⟩ := k T hT X
  exact ⟨t, X.faloadNull hexec (g := F0 m pc ls (.int i :: .null :: rest)) rfl (rest := rest) rfl (by rw [hb]; exact hdg) t st, q⟩
theorem vx_daloadN (hexec : p.tables.exec = Jvm.exec) (hb : c.code = cc) {i : Int32} (hdg : decode cc pc = .ok (.daload, 1)) (k : vx_NoteN p l e R s m args below meth c H locs cells slots Q (F0 m pc ls rest)) : W p l e R s m args below meth c H locs cells slots Q (F0 m pc ls (.int i :: .null :: rest)) := by
  intro T hT X
  obtain ⟨t, st, q⟩ := k T hT X
  exact ⟨t, X.daloadNull hexec (g := F0 m pc ls (.int i :: .null :: rest)) rfl (rest := rest) rfl (by rw [hb]; exact hdg) t st, q⟩
theorem vx_aaloadN (hexec : p.tables.exec = Jvm.exec) (hb : c.code = cc) {i : Int32} (hdg : decode cc pc = .ok (.aaload, 1)) (k : vx_NoteN p l e R s m args below meth c H locs cells slots Q (F0 m pc ls rest)) : W p l e R s m args below meth c H locs cells slots Q (F0 m pc ls (.int i :: .null :: rest)) := by
  intro T hT X
  obtain ⟨t, st, q⟩ := k T hT X
  exact ⟨t, X.aaloadNull hexec (g := F0 m pc ls (.int i :: .null :: rest)) rfl (rest := rest) rfl (by rw [hb]; exact hdg) t st, q⟩
theorem vx_baloadN (hexec : p.tables.exec = Jvm.exec) (hb : c.code = cc) {i : Int32} (hdg : decode cc pc = .ok (.baload, 1)) (k : vx_NoteN p l e R s m args below meth c H locs cells slots Q (F0 m pc ls rest)) : W p l e R s m args below meth c H locs cells slots Q (F0 m pc ls (.int i :: .null :: rest)) := by
  intro T hT X
  obtain ⟨t, st, q⟩ := k T hT X
  exact ⟨t, X.baloadNull hexec (g := F0 m pc ls (.int i :: .null :: rest)) rfl (rest := rest) rfl (by rw [hb]; exact hdg) t st, q⟩
theorem vx_caloadN (hexec : p.tables.exec = Jvm.exec) (hb : c.code = cc) {i : Int32} (hdg : decode cc pc = .ok (.caload, 1)) (k : vx_NoteN p l e R s m args below meth c H locs cells slots Q (F0 m pc ls rest)) : W p l e R s m args below meth c H locs cells slots Q (F0 m pc ls (.int i :: .null :: rest)) := by
  intro T hT X
  obtain ⟨t, st, q⟩ := k T hT X
  exact ⟨t, X.caloadNull hexec (g := F0 m pc ls (.int i :: .null :: rest)) rfl (rest := rest) rfl (by rw [hb]; exact hdg) t st, q⟩
theorem vx_saloadN (hexec : p.tables.exec = Jvm.exec) (hb : c.code = cc) {i : Int32} (hdg : decode cc pc = .ok (.saload, 1)) (k : vx_NoteN p l e R s m args below meth c H locs cells slots Q (F0 m pc ls rest)) : W p l e R s m args below meth c H locs cells slots Q (F0 m pc ls (.int i :: .null :: rest)) := by
  intro T hT X
  obtain ⟨t, st, q⟩ := k T hT X
  exact ⟨t, X.saloadNull hexec (g := F0 m pc ls (.int i :: .null :: rest)) rfl (rest := rest) rfl (by rw [hb]; exact hdg) t st, q⟩
theorem vx_iastoreN (hexec : p.tables.exec = Jvm.exec) (hb : c.code = cc) {x : Int32} {i : Int32} (hdg : decode cc pc = .ok (.iastore, 1)) (k : vx_NoteN p l e R s m args below meth c H locs cells slots Q (F0 m pc ls rest)) : W p l e R s m args below meth c H locs cells slots Q (F0 m pc ls (.int x :: .int i :: .null :: rest)) := by
  intro T hT X
  obtain ⟨t, st, q⟩ := k T hT X
  exact ⟨t, X.iastoreNull hexec (g := F0 m pc ls (.int x :: .int i :: .null :: rest)) rfl (rest := rest) rfl (by rw [hb]; exact hdg) t st, q⟩
theorem vx_lastoreN (hexec : p.tables.exec = Jvm.exec) (hb : c.code = cc) {x : Int64} {i : Int32} (hdg : decode cc pc = .ok (.lastore, 1)) (k : vx_NoteN p l e R s m args below meth c H locs cells slots Q (F0 m pc ls rest)) : W p l e R s m args below meth c H locs cells slots Q (F0 m pc ls (.long x :: .int i :: .null :: rest)) := by
  intro T hT X
  obtain ⟨t, st, q⟩ := k T hT X
  exact ⟨t, X.lastoreNull hexec (g := F0 m pc ls (.long x :: .int i :: .null :: rest)) rfl (rest := rest) rfl (by rw [hb]; exact hdg) t st, q⟩
theorem vx_fastoreN (hexec : p.tables.exec = Jvm.exec) (hb : c.code = cc) {x : UInt32} {i : Int32} (hdg : decode cc pc = .ok (.fastore, 1)) (k : vx_NoteN p l e R s m args below meth c H locs cells slots Q (F0 m pc ls rest)) : W p l e R s m args below meth c H locs cells slots Q (F0 m pc ls (.float x :: .int i :: .null :: rest)) := by
  intro T hT X
  obtain ⟨t, st, q⟩ := k T hT X
  exact ⟨t, X.fastoreNull hexec (g := F0 m pc ls (.float x :: .int i :: .null :: rest)) rfl (rest := rest) rfl (by rw [hb]; exact hdg) t st, q⟩
theorem vx_dastoreN (hexec : p.tables.exec = Jvm.exec) (hb : c.code = cc) {x : UInt64} {i : Int32} (hdg : decode cc pc = .ok (.dastore, 1)) (k : vx_NoteN p l e R s m args below meth c H locs cells slots Q (F0 m pc ls rest)) : W p l e R s m args below meth c H locs cells slots Q (F0 m pc ls (.double x :: .int i :: .null :: rest)) := by
  intro T hT X
  obtain ⟨t, st, q⟩ := k T hT X
  exact ⟨t, X.dastoreNull hexec (g := F0 m pc ls (.double x :: .int i :: .null :: rest)) rfl (rest := rest) rfl (by rw [hb]; exact hdg) t st, q⟩
theorem vx_bastoreN (hexec : p.tables.exec = Jvm.exec) (hb : c.code = cc) {x : Int32} {i : Int32} (hdg : decode cc pc = .ok (.bastore, 1)) (k : vx_NoteN p l e R s m args below meth c H locs cells slots Q (F0 m pc ls rest)) : W p l e R s m args below meth c H locs cells slots Q (F0 m pc ls (.int x :: .int i :: .null :: rest)) := by
  intro T hT X
  obtain ⟨t, st, q⟩ := k T hT X
  exact ⟨t, X.bastoreNull hexec (g := F0 m pc ls (.int x :: .int i :: .null :: rest)) rfl (rest := rest) rfl (by rw [hb]; exact hdg) t st, q⟩
theorem vx_castoreN (hexec : p.tables.exec = Jvm.exec) (hb : c.code = cc) {x : Int32} {i : Int32} (hdg : decode cc pc = .ok (.castore, 1)) (k : vx_NoteN p l e R s m args below meth c H locs cells slots Q (F0 m pc ls rest)) : W p l e R s m args below meth c H locs cells slots Q (F0 m pc ls (.int x :: .int i :: .null :: rest)) := by
  intro T hT X
  obtain ⟨t, st, q⟩ := k T hT X
  exact ⟨t, X.castoreNull hexec (g := F0 m pc ls (.int x :: .int i :: .null :: rest)) rfl (rest := rest) rfl (by rw [hb]; exact hdg) t st, q⟩
theorem vx_sastoreN (hexec : p.tables.exec = Jvm.exec) (hb : c.code = cc) {x : Int32} {i : Int32} (hdg : decode cc pc = .ok (.sastore, 1)) (k : vx_NoteN p l e R s m args below meth c H locs cells slots Q (F0 m pc ls rest)) : W p l e R s m args below meth c H locs cells slots Q (F0 m pc ls (.int x :: .int i :: .null :: rest)) := by
  intro T hT X
  obtain ⟨t, st, q⟩ := k T hT X
  exact ⟨t, X.sastoreNull hexec (g := F0 m pc ls (.int x :: .int i :: .null :: rest)) rfl (rest := rest) rfl (by rw [hb]; exact hdg) t st, q⟩
theorem vx_invokeN {own C : String} {index maxL : Nat} {y : MethodName} {bytes : ByteArray} {ret : Option FieldType} (hexec : p.tables.exec = Jvm.exec) (hb : c.code = cc) (hown : s.vm.findClass own = some m.cls) (hlink : (Cond.methodLink own index y).before args s = true) (hinst : (Cond.instanceMethod y).before args s = true) (hcode : (Cond.code y bytes maxL ret).before args s = true) (hsel : (Cond.selects C y y).before args s = true)
    (hx : y.cls ≠ "java/lang/invoke/MethodHandle" ∧ y.cls ≠ "java/lang/invoke/VarHandle") {As : List Value} (hlen : (parseMethodDescriptor y.desc).map (fun d => d.parameters.length) = some As.length) (hdg : decode cc pc = .ok (.invokevirtual index, 3))
    (k : vx_NoteN p l e R s m args below meth c H locs cells slots Q (F0 m pc ls rest)) {st0 : List Value} (hst : st0 = As.reverse ++ .null :: rest) : W p l e R s m args below meth c H locs cells slots Q (F0 m pc ls st0) := by
  intro T hT X
  obtain ⟨r0, r, hn, hrm, hstR, hsigR⟩ := va_Decl.of hinst hcode
  obtain ⟨c2, r2, m2, q1, q2, q3, q4, kP, hkP, hkPi⟩ := Cond.selects_spec hsel
  cases hn.symm.trans q3
  have hl9 : As.length = r.sig.parameters.length := by
    rw [hsigR] at hlen
    exact (Option.some.inj hlen).symm
  obtain ⟨vm', X1, st1⟩ := X.invokevirtualNull hexec hown hlink hn hrm hstR hkP hkPi hx (g := F0 m pc ls st0) rfl (argsL := As) (rest := rest) hl9 hst (by rw [hb]; exact hdg)
  obtain ⟨t, st, q⟩ := k (T.setVm vm') hT X1
  exact ⟨t, st1 t st, q⟩
theorem vx_newarrayZ {atype : ArrayType} (hexec : p.tables.exec = Jvm.exec) (hb : c.code = cc) {n : Int32} (h0 : n < 0) (hdg : decode cc pc = .ok (.newarray atype, 2)) (k : ∀ tx : String, tx = toString n → vx_Note p l e R s m args below meth c H locs cells slots Q (F0 m pc ls rest) "java/lang/NegativeArraySizeException" tx) : W p l e R s m args below meth c H locs cells slots Q (F0 m pc ls (.int n :: rest)) := by
  intro T hT X
  obtain ⟨t, st, q⟩ := k _ rfl T hT X
  exact ⟨t, X.newarrayNegative hexec (g := F0 m pc ls (.int n :: rest)) rfl h0 (rest := rest) rfl (by rw [hb]; exact hdg) t st, q⟩
end
end VXM
/-! ===== END ===== -/
/-! ===== BEGIN an exception as an object: made, kept, thrown later (no traces kept) ===== -/
section VXK
variable {p : Program} {l : Launch} {e : Env} {R : Room} {s : State} {m₀ : MethodId} {args : Array Value} {below : List Frame} {meth : Method} {c : Code} {W : State} {locs : List Loc} {cells slots : Nat}
set_option maxHeartbeats 1000000 in
theorem vx_ctorMadeS (X : Stand p l e R s m₀ args below meth c W locs cells slots) (hexec : p.tables.exec = Jvm.exec) (htr : e.platform.stackTraces = false) {own cls : String} {names : List String} {ic : Nat}
    (hown : s.vm.findClass own = some m₀.cls) (hcls : Bundle.fit cls = true) (hnames : ∀ n ∈ names, Bundle.fit n = true)
    (h : ∀ a ∈ Bundle.ownAtoms own ic cls names, a.before args s = true)
    (hlocs : ∀ x ∈ locs, ∀ cell, s.heap[x.base]? = some cell → cell.vm.isStatics = false)
    {a : Addr} {cX : ClassId} {kX : Class} (hfoundX : s.vm.findClass cls = some cX) (hkX : s.vm.classes[cX]? = some kX) (hcell : W.heap[a]? = some (freshCell cX kX)) (hnew : s.heap.size ≤ a)
    {msg : Value} (hmsg : msg.isRef = true)
    {g : JFrame} (hg : g.method = m₀) (hsize : g.locals.size = c.maxLocals) {rest : List Value} (hstack : g.stack = msg :: .ref a :: .ref a :: rest)
    (hd6 : decode c.code g.pc = .ok (.invokespecial ic, 3))
    (hRframes : names.length + 3 < R.frames) (hRlocals : 2 * g.monitorRoom + ((Value.ref a :: rest).map fun v => v.category).sum + (13 * (names.length + 1) + 42) ≤ R.locals) :
    ∃ (V : State) (ce : Cell) (L : List Loc), Stand p l e R s m₀ args below meth c (V.setCell a ce) (locs ++ L) cells slots ∧ (∀ y ∈ L, y.base = a) ∧ a < V.heap.size ∧ ce.cls = cX ∧ ce.vm = .none ∧
      ∀ target, Steps p.tables e below ((V.setCell a ce).setTop { g with stack := .ref a :: rest, pc := g.pc + 3 }) target → Steps p.tables e below (W.setTop g) target := by
  have howns : e.platform.frameOwnsMonitors = true := by rw [X.admits.platform]
  have hfin : e.platform.finalization = false := by rw [X.admits.platform]
  have hpl : e.platform.magicAccessors = ({} : Platform).magicAccessors := by rw [X.admits.platform]
  have a' : ∀ x, x ∈ Bundle.ownAtoms own ic cls names → x.holds args s none s [] = true := fun x hx => h x hx
  obtain ⟨T, Z0, L, -, Y⟩ := ThrowableC.of_atoms (args := args) howns hfin hpl (fun x hx => h x (by simp [Bundle.ownAtoms, hx]))
  obtain ⟨Z, M, LZ, LM, hnZ⟩ := Init0T.ofS_atoms (args := args) hpl L Y (fun x hx => h x (by simp [Bundle.ownAtoms, hx]))
  obtain ⟨P1, Ps, hlen, L1, hL, hP1m, hlink1, hlink⟩ := Bundle.chainS (args := args) hpl hnZ names cls hcls hnames (fun x hx => h x (by simp [Bundle.ownAtoms, hx]))
  have hfound : s.vm.findClass cls = some P1.m.cls := findClass_of_methodNamed hP1m
  cases Option.some.inj (hfoundX.symm.trans hfound)
  obtain ⟨c1, kX', hc1, hk, hord, -, -, hn6⟩ := Cond.instantiable_spec (a' (.instantiable cls 6) (by simp [Bundle.ownAtoms]))
  cases Option.some.inj (hc1.symm.trans hfound)
  cases Option.some.inj (hkX.symm.trans hk)
  have hsel0 : selectMethod e.platform s.vm P1.m.cls T.fill0 = .method T.fill0 := by
    obtain ⟨c2, r2, m2, q1, q2, q3, q4, -⟩ := Cond.selects_spec (a' (.selects cls Bundle.tFill0 Bundle.tFill0) (by simp [Bundle.ownAtoms]))
    cases Option.some.inj (q1.symm.trans hfound)
    cases Option.some.inj (q2.symm.trans (State.methodFound?_of_named Y.fill0 (by decide)))
    cases Option.some.inj (q3.symm.trans Y.fill0)
    rw [Launch.admits_selectMethod X.admits]; exact q4
  have hselF : selectMethod e.platform s.vm P1.m.cls T.fill = .method T.fill := by
    obtain ⟨c2, r2, m2, q1, q2, q3, q4, -⟩ := Cond.selects_spec (a' (.selects cls Bundle.tFill Bundle.tFill) (by simp [Bundle.ownAtoms]))
    cases Option.some.inj (q1.symm.trans hfound)
    cases Option.some.inj (q2.symm.trans (State.methodFound?_of_named Y.fill (by decide)))
    cases Option.some.inj (q3.symm.trans Y.fill)
    rw [Launch.admits_selectMethod X.admits]; exact q4
  obtain ⟨cellS0, hcS0, hiss⟩ := Y.statics
  obtain ⟨u0, hu0⟩ := Cond.staticRefV Y.unassigned L.unassignedStatic L.statics hcS0 hiss (a' (.isRef (.static Bundle.tN "UNASSIGNED_STACK" Bundle.steD)) (by simp [Bundle.ownAtoms]))
  obtain ⟨sen, hsen⟩ := Cond.staticRefV Y.sentinel L.sentinelStatic L.statics hcS0 hiss (a' (.isRef (.static Bundle.tN "SUPPRESSED_SENTINEL" Bundle.listD)) (by simp [Bundle.ownAtoms]))
  obtain ⟨ci198, i198, fB, hk198, hg198, ha198, hsB, -, hnB, htB, hffB⟩ := Cond.ownField (t := .object "java/lang/Object") Y.found L.cls (by decide +kernel) (a' (.fieldLink Bundle.tN 198 Bundle.tN "backtrace" "Ljava/lang/Object;") (by simp [Bundle.ownAtoms])) (a' (.lays Bundle.tN Bundle.tN "backtrace" "Ljava/lang/Object;") (by simp [Bundle.ownAtoms])) e.platform hpl
  obtain ⟨cellS, hcS', heS, -, hkeep⟩ := X.same.2.2.2.2.2 T.aS cellS0 hcS0
  have hcellS : W.heap[T.aS]? = some cellS := hcS'
  have hout' : ∀ i, (⟨T.aS, i⟩ : Loc) ∉ locs := fun i hmem => by
    have := hlocs _ hmem cellS0 hcS0
    rw [hiss] at this; cases this
  have hknownS : cellS.vm ≠ .unknown := by
    rw [heS]; intro hu
    rw [show cellS0.vm = .unknown from hu] at hiss
    cases hiss
  have hneS : T.aS ≠ a := Nat.ne_of_lt (Nat.lt_of_lt_of_le (Array.getElem?_eq_some_iff.mp hcS0).1 hnew)
  obtain ⟨iM, hffM⟩ := Y.msg
  obtain ⟨tyC, dC, hdC, hdnC⟩ := Cond.laysAt hfound hk Y.cause (a' (.lays cls Bundle.tN "cause" "Ljava/lang/Throwable;") (by simp [Bundle.ownAtoms]))
  obtain ⟨tyS, dS, hdS, hdnS⟩ := Cond.laysAt hfound hk Y.stack (a' (.lays cls Bundle.tN "stackTrace" Bundle.steD) (by simp [Bundle.ownAtoms]))
  obtain ⟨tyP, dP, hdP, hdnP⟩ := Cond.laysAt hfound hk Y.supp (a' (.lays cls Bundle.tN "suppressedExceptions" Bundle.listD) (by simp [Bundle.ownAtoms]))
  obtain ⟨tyM, dM, hdM, hdnM⟩ := Cond.laysAt hfound hk hffM (a' (.lays cls Bundle.tN "detailMessage" "Ljava/lang/String;") (by simp [Bundle.ownAtoms]))
  obtain ⟨tyB, dB, hdB, hdnB⟩ := Cond.laysAt hfound hk hffB (a' (.lays cls Bundle.tN "backtrace" "Ljava/lang/Object;") (by simp [Bundle.ownAtoms]))
  have bC := Cond.laysApart hdB hdC hdnB hdnC (by rw [hnB, Y.causeName]; decide)
  have bS := Cond.laysApart hdB hdS hdnB hdnS (by rw [hnB, Y.stackName]; decide)
  have bP := Cond.laysApart hdB hdP hdnB hdnP (by rw [hnB, Y.suppName]; decide)
  have hskip : SkipFacts T e.platform s (fun u => u) u0 ((preparedCellV T.toThrowableT (freshCell P1.m.cls kX) a u0 sen).withEntry W.cur) :=
    ⟨{ ci198 := ci198, i198 := i198, fBack := fB }, ⟨hk198, hg198, ha198, hsB⟩, by
      have := fresh_default (c := P1.m.cls) tyB
      rw [htB] at this
      simpa [preparedCellV, Cell.setSlot, Cell.withEntry, Array.getElem?_setIfInBounds, bC, bS, bP, bC.symm, bS.symm, bP.symm, defaultValue] using this, fun _ _ => rfl⟩
  obtain ⟨tm, methC, cdC, kC, vm₁, hnC, -, -, -, -, -, -, -, hW₁, st1⟩ := Steps.initColdS (tb := p.tables) (e := e) (below := below) (s := s) (U := W) X.here hexec X.warmed hpl hown (t := Bundle.initS cls) rfl rfl (Bundle.fit_spec hcls).2
    (a' (.methodLink own ic (Bundle.initS cls)) (by simp [Bundle.ownAtoms])) (h (.instanceMethod (Bundle.initS cls)) (by cases names <;> simp [Bundle.ownAtoms, Bundle.chainSAtoms, Bundle.passSAtoms])) (bytes := Bundle.six) (maxL := 2) (h (.code (Bundle.initS cls) Bundle.six 2 none) (by cases names <;> simp [Bundle.ownAtoms, Bundle.chainSAtoms, Bundle.passSAtoms]))
    (f := g) hg (a := a) (msg := msg) (rest := .ref a :: rest) hstack hd6
  cases Option.some.inj (hnC.symm.trans hP1m)
  have X₁ := X.noted hW₁
  obtain ⟨vm₂, X₂, st2⟩ := X₁.ctorMessageOffV hexec (g := { g with stack := .ref a :: rest }) hg hsize T L Z LZ M LM (P1 :: Ps)
    (fun P hP => by rcases List.mem_cons.mp hP with rfl | hP; exact L1; exact hL P hP) ⟨hlink1, hlink⟩ (u0 := u0) (sen := sen) (self := a) hmsg (cell := freshCell P1.m.cls kX) (cellS := cellS)
    hcell (fun _ => by simp) (by simp) rfl rfl hsel0 hselF hcellS hneS hknownS (by rw [hkeep _ (hout' _)]; exact hu0) (by rw [hkeep _ (hout' _)]; exact hsen)
    (Takes.of_laid hk hord tyC (by rw [Y.causeType]; rfl)) (Takes.of_laid hk hord tyS (by rw [Y.stackType]; exact fits_refV_array _ u0)) (Takes.of_laid hk hord tyP (by rw [Y.suppType]; exact fits_refV_object _ sen))
    (Takes.of_laid hk hord tyM (by rw [Y.msgType]; exact fits_refV_object _ ⟨msg, hmsg⟩)) Y.objLocals hskip htr [] hd6
    (by simp only [List.length_cons, hlen]; omega) (by simp only [List.length_cons, hlen]; exact hRlocals)
  have hlt : a < ((W.setVm vm₁).setVm vm₂).heap.size := (Array.getElem?_eq_some_iff.mp hcell).1
  refine ⟨(W.setVm vm₁).setVm vm₂, _, _, X₂, fun y hy => ?_, hlt, rfl, rfl, fun target hwalk => st1 _ (fun acts => ?_)⟩
  · simp only [List.mem_cons, List.not_mem_nil, or_false] at hy
    rcases hy with rfl | rfl | rfl | rfl | rfl <;> rfl
  · rw [doInvoke_state]
    exact st2 _ hwalk
set_option maxHeartbeats 1000000 in
theorem vx_ctorMade0 (X : Stand p l e R s m₀ args below meth c W locs cells slots) (hexec : p.tables.exec = Jvm.exec) (htr : e.platform.stackTraces = false) {own cls : String} {names : List String} {ic : Nat}
    (hown : s.vm.findClass own = some m₀.cls) (hcls : Bundle.fit cls = true) (hnames : ∀ n ∈ names, Bundle.fit n = true)
    (h : ∀ a ∈ Bundle.ownAtoms0 own ic cls names, a.before args s = true)
    (hlocs : ∀ x ∈ locs, ∀ cell, s.heap[x.base]? = some cell → cell.vm.isStatics = false)
    {a : Addr} {cX : ClassId} {kX : Class} (hfoundX : s.vm.findClass cls = some cX) (hkX : s.vm.classes[cX]? = some kX) (hcell : W.heap[a]? = some (freshCell cX kX)) (hnew : s.heap.size ≤ a)
    {g : JFrame} (hg : g.method = m₀) (hsize : g.locals.size = c.maxLocals) {rest : List Value} (hstack : g.stack = .ref a :: .ref a :: rest)
    (hd6 : decode c.code g.pc = .ok (.invokespecial ic, 3))
    (hRframes : names.length + 3 < R.frames) (hRlocals : 2 * g.monitorRoom + ((Value.ref a :: rest).map fun v => v.category).sum + (13 * (names.length + 1) + 41) ≤ R.locals) :
    ∃ (V : State) (ce : Cell) (L : List Loc), Stand p l e R s m₀ args below meth c (V.setCell a ce) (locs ++ L) cells slots ∧ (∀ y ∈ L, y.base = a) ∧ a < V.heap.size ∧ ce.cls = cX ∧ ce.vm = .none ∧
      ∀ target, Steps p.tables e below ((V.setCell a ce).setTop { g with stack := .ref a :: rest, pc := g.pc + 3 }) target → Steps p.tables e below (W.setTop g) target := by
  have howns : e.platform.frameOwnsMonitors = true := by rw [X.admits.platform]
  have hfin : e.platform.finalization = false := by rw [X.admits.platform]
  have hpl : e.platform.magicAccessors = ({} : Platform).magicAccessors := by rw [X.admits.platform]
  have a' : ∀ x, x ∈ Bundle.ownAtoms0 own ic cls names → x.holds args s none s [] = true := fun x hx => h x hx
  obtain ⟨T, Z, L, LZ, Y⟩ := ThrowableC.of_atoms (args := args) howns hfin hpl (fun x hx => h x (by simp [Bundle.ownAtoms0, hx]))
  obtain ⟨P1, Ps, hlen, L1, hL, hP1m, hlink1, hlink⟩ := Bundle.chain0 (args := args) hpl Y.init0 names cls hcls hnames (fun x hx => h x (by simp [Bundle.ownAtoms0, hx]))
  have hfound : s.vm.findClass cls = some P1.m.cls := findClass_of_methodNamed hP1m
  cases Option.some.inj (hfoundX.symm.trans hfound)
  obtain ⟨c1, kX', hc1, hk, hord, -, -, hn6⟩ := Cond.instantiable_spec (a' (.instantiable cls 6) (by simp [Bundle.ownAtoms0]))
  cases Option.some.inj (hc1.symm.trans hfound)
  cases Option.some.inj (hkX.symm.trans hk)
  have hsel0 : selectMethod e.platform s.vm P1.m.cls T.fill0 = .method T.fill0 := by
    obtain ⟨c2, r2, m2, q1, q2, q3, q4, -⟩ := Cond.selects_spec (a' (.selects cls Bundle.tFill0 Bundle.tFill0) (by simp [Bundle.ownAtoms0]))
    cases Option.some.inj (q1.symm.trans hfound)
    cases Option.some.inj (q2.symm.trans (State.methodFound?_of_named Y.fill0 (by decide)))
    cases Option.some.inj (q3.symm.trans Y.fill0)
    rw [Launch.admits_selectMethod X.admits]; exact q4
  have hselF : selectMethod e.platform s.vm P1.m.cls T.fill = .method T.fill := by
    obtain ⟨c2, r2, m2, q1, q2, q3, q4, -⟩ := Cond.selects_spec (a' (.selects cls Bundle.tFill Bundle.tFill) (by simp [Bundle.ownAtoms0]))
    cases Option.some.inj (q1.symm.trans hfound)
    cases Option.some.inj (q2.symm.trans (State.methodFound?_of_named Y.fill (by decide)))
    cases Option.some.inj (q3.symm.trans Y.fill)
    rw [Launch.admits_selectMethod X.admits]; exact q4
  obtain ⟨cellS0, hcS0, hiss⟩ := Y.statics
  obtain ⟨u0, hu0⟩ := Cond.staticRefV Y.unassigned L.unassignedStatic L.statics hcS0 hiss (a' (.isRef (.static Bundle.tN "UNASSIGNED_STACK" Bundle.steD)) (by simp [Bundle.ownAtoms0]))
  obtain ⟨sen, hsen⟩ := Cond.staticRefV Y.sentinel L.sentinelStatic L.statics hcS0 hiss (a' (.isRef (.static Bundle.tN "SUPPRESSED_SENTINEL" Bundle.listD)) (by simp [Bundle.ownAtoms0]))
  obtain ⟨ci198, i198, fB, hk198, hg198, ha198, hsB, -, hnB, htB, hffB⟩ := Cond.ownField (t := .object "java/lang/Object") Y.found L.cls (by decide +kernel) (a' (.fieldLink Bundle.tN 198 Bundle.tN "backtrace" "Ljava/lang/Object;") (by simp [Bundle.ownAtoms0])) (a' (.lays Bundle.tN Bundle.tN "backtrace" "Ljava/lang/Object;") (by simp [Bundle.ownAtoms0])) e.platform hpl
  obtain ⟨cellS, hcS', heS, -, hkeep⟩ := X.same.2.2.2.2.2 T.aS cellS0 hcS0
  have hcellS : W.heap[T.aS]? = some cellS := hcS'
  have hout' : ∀ i, (⟨T.aS, i⟩ : Loc) ∉ locs := fun i hmem => by
    have := hlocs _ hmem cellS0 hcS0
    rw [hiss] at this; cases this
  have hknownS : cellS.vm ≠ .unknown := by
    rw [heS]; intro hu
    rw [show cellS0.vm = .unknown from hu] at hiss
    cases hiss
  have hneS : T.aS ≠ a := Nat.ne_of_lt (Nat.lt_of_lt_of_le (Array.getElem?_eq_some_iff.mp hcS0).1 hnew)
  obtain ⟨iM, hffM⟩ := Y.msg
  obtain ⟨tyC, dC, hdC, hdnC⟩ := Cond.laysAt hfound hk Y.cause (a' (.lays cls Bundle.tN "cause" "Ljava/lang/Throwable;") (by simp [Bundle.ownAtoms0]))
  obtain ⟨tyS, dS, hdS, hdnS⟩ := Cond.laysAt hfound hk Y.stack (a' (.lays cls Bundle.tN "stackTrace" Bundle.steD) (by simp [Bundle.ownAtoms0]))
  obtain ⟨tyP, dP, hdP, hdnP⟩ := Cond.laysAt hfound hk Y.supp (a' (.lays cls Bundle.tN "suppressedExceptions" Bundle.listD) (by simp [Bundle.ownAtoms0]))
  obtain ⟨tyM, dM, hdM, hdnM⟩ := Cond.laysAt hfound hk hffM (a' (.lays cls Bundle.tN "detailMessage" "Ljava/lang/String;") (by simp [Bundle.ownAtoms0]))
  obtain ⟨tyB, dB, hdB, hdnB⟩ := Cond.laysAt hfound hk hffB (a' (.lays cls Bundle.tN "backtrace" "Ljava/lang/Object;") (by simp [Bundle.ownAtoms0]))
  have bC := Cond.laysApart hdB hdC hdnB hdnC (by rw [hnB, Y.causeName]; decide)
  have bS := Cond.laysApart hdB hdS hdnB hdnS (by rw [hnB, Y.stackName]; decide)
  have bP := Cond.laysApart hdB hdP hdnB hdnP (by rw [hnB, Y.suppName]; decide)
  have hskip : SkipFacts T e.platform s (fun u => u) u0 ((preparedCellV T.toThrowableT (freshCell P1.m.cls kX) a u0 sen).withEntry W.cur) :=
    ⟨{ ci198 := ci198, i198 := i198, fBack := fB }, ⟨hk198, hg198, ha198, hsB⟩, by
      have := fresh_default (c := P1.m.cls) tyB
      rw [htB] at this
      simpa [preparedCellV, Cell.setSlot, Cell.withEntry, Array.getElem?_setIfInBounds, bC, bS, bP, bC.symm, bS.symm, bP.symm, defaultValue] using this, fun _ _ => rfl⟩
  obtain ⟨tm, methC, cdC, kC, vm₁, hnC, -, -, -, -, -, -, -, hW₁, st1⟩ := Steps.initCold (tb := p.tables) (e := e) (below := below) (s := s) (U := W) X.here hexec X.warmed hpl hown (t := Bundle.init0 cls) rfl rfl (Bundle.fit_spec hcls).2
    (a' (.methodLink own ic (Bundle.init0 cls)) (by simp [Bundle.ownAtoms0])) (h (.instanceMethod (Bundle.init0 cls)) (by cases names <;> simp [Bundle.ownAtoms0, Bundle.chain0Atoms, Bundle.passAtoms])) (bytes := Bundle.five) (maxL := 1) (h (.code (Bundle.init0 cls) Bundle.five 1 none) (by cases names <;> simp [Bundle.ownAtoms0, Bundle.chain0Atoms, Bundle.passAtoms]))
    (f := g) hg (a := a) (rest := .ref a :: rest) hstack hd6
  cases Option.some.inj (hnC.symm.trans hP1m)
  have X₁ := X.noted hW₁
  obtain ⟨vm₂, X₂, st2⟩ := X₁.ctorPlainOffV hexec (g := { g with stack := .ref a :: rest }) hg hsize T L Z LZ (P1 :: Ps)
    (fun P hP => by rcases List.mem_cons.mp hP with rfl | hP; exact L1; exact hL P hP) ⟨hlink1, hlink⟩ (u0 := u0) (sen := sen) (self := a) (cell := freshCell P1.m.cls kX) (cellS := cellS)
    hcell (fun _ => by simp) (by simp) rfl rfl hsel0 hselF hcellS hneS hknownS (by rw [hkeep _ (hout' _)]; exact hu0) (by rw [hkeep _ (hout' _)]; exact hsen)
    (Takes.of_laid hk hord tyC (by rw [Y.causeType]; rfl)) (Takes.of_laid hk hord tyS (by rw [Y.stackType]; exact fits_refV_array _ u0)) (Takes.of_laid hk hord tyP (by rw [Y.suppType]; exact fits_refV_object _ sen)) Y.objLocals hskip htr [] hd6
    (by simp only [List.length_cons, hlen]; omega) (by simp only [List.length_cons, hlen]; exact hRlocals)
  have hlt : a < ((W.setVm vm₁).setVm vm₂).heap.size := (Array.getElem?_eq_some_iff.mp hcell).1
  refine ⟨(W.setVm vm₁).setVm vm₂, _, _, X₂, fun y hy => ?_, hlt, rfl, rfl, fun target hwalk => st1 _ (fun acts => ?_)⟩
  · simp only [List.mem_cons, List.not_mem_nil, or_false] at hy
    rcases hy with rfl | rfl | rfl | rfl <;> rfl
  · rw [doInvoke_state]
    exact st2 _ hwalk
end VXK
section VXK2
variable {p : Program} {l : Launch} {e : Env} {R : Room} {s : State} {m : MethodId} {args : Array Value} {below : List Frame} {meth : Method} {c : Code} {H : Heap} {locs : List Loc} {cells slots : Nat} {Q : State → Prop}
variable {ls : Array Slot} {rest : List Value} {D : va_G} {cl : List vw_C} {tys : List (ClassId × FieldType)} {ws : va_W}
/-- 'new E("text")' that isn't thrown at once: the object goes on the stack -/
theorem vx_makeS {cc : ByteArray} {pc : Nat} (hexec : p.tables.exec = Jvm.exec) (hb : c.code = cc) (hl : l.stackTraces = false) {own cls text : String} {names : List String} {ik is ic sa ci : Nat} {A : Nat → Prop} {T0 : u_T}
    (hown : s.vm.findClass own = some m.cls) (hcls : Bundle.fit cls = true) (hnames : ∀ n ∈ names, Bundle.fit n = true)
    (hk : (Cond.classLink own ik cls).before args s = true) (hini : (Cond.initialized cls).before args s = true) (hstr : vk_R own is text sa s) (hat : ∀ w ∈ vx_atS own ic cls names, w.before args s = true)
    (hgood : ∀ w ∈ Cond.classLink own ik cls :: Cond.initialized cls :: vx_atS own ic cls names, vx_ot w = true)
    (hU : vx_Zq Bundle.tN "UNASSIGNED_STACK" Bundle.steD A s s.heap) (hN : vx_Zq Bundle.tN "SUPPRESSED_SENTINEL" Bundle.listD A s s.heap) (hS : va_S A s.heap H locs) (hsize : ls.size = c.maxLocals)
    (d0 : decode cc pc = .ok (.new ik, 3)) (d3 : decode cc (pc + 3) = .ok (.dup, 1)) (d4 : decode cc (pc + 4) = .ok (.ldc is, 2)) (d6 : decode cc (pc + 6) = .ok (.invokespecial ic, 3))
    (hK : va_K D cl tys s) (hP : va_P D cl ws H) (hD : va_D A ws) (hA : ∀ q, s.heap.size ≤ q → A q) (hc : cl[ci]? = some (cls, T0, 0))
    (hRframes : names.length + 3 < R.frames) (hRlocals : (rest.map fun v => v.category).sum + (13 * (names.length + 1) + 43) ≤ R.locals) (hRcells : cells + 1 ≤ R.cells) (hRslots : slots + 6 ≤ R.slots)
    (kk : ∀ (q : Nat) (H1 : Heap), va_P D cl (ws ++ [(q, .inr (ci, []))]) H1 → va_D A (ws ++ [(q, .inr (ci, []))]) → va_S A s.heap H1 locs → W p l e R s m args below meth c H1 locs (cells + 1) (slots + 6) Q (F0 m (pc + 9) ls (.ref q :: rest))) :
    W p l e R s m args below meth c H locs cells slots Q (F0 m pc ls rest) := by
  intro T hT X
  subst hT
  have htr : e.platform.stackTraces = false := (show e.platform.stackTraces = l.stackTraces by rw [X.admits.platform]).trans hl
  have Y := vx_rebase X (R' := { frames := R.frames, locals := R.locals, cells := 1, slots := 6 }) (Nat.le_refl _) (Nat.le_refl _) hRcells hRslots
  obtain ⟨s', hA'⟩ : ∃ z, z = (T.setVm s.vm).setFrames (.invoking m args :: below) := ⟨_, rfl⟩
  rw [← hA'] at Y
  have hvm : s'.vm = s.vm := by rw [hA']; rfl
  have hhp : s'.heap = T.heap := by rw [hA']; rfl
  have hW0 : s.WarmedH s'.vm := by rw [hvm]; exact State.WarmedH.refl s
  have hat' : ∀ w ∈ vx_atS own ic cls names, w.before args s' = true := fun w hw => vx_ot_at hW0 hvm.symm (hgood w (List.mem_cons_of_mem _ (List.mem_cons_of_mem _ hw))) (hat w hw)
  have hk' : (Cond.classLink own ik cls).before args s' = true := vx_ot_at hW0 hvm.symm (hgood _ List.mem_cons_self) hk
  have hini' : (Cond.initialized cls).before args s' = true := vx_ot_at hW0 hvm.symm (hgood _ (List.mem_cons_of_mem _ List.mem_cons_self)) hini
  have hU' : vx_Zq Bundle.tN "UNASSIGNED_STACK" Bundle.steD A s' s'.heap := by rw [hhp]; exact vx_Zq.moved hW0.alike (hU.kept hS.2.1)
  have hN' : vx_Zq Bundle.tN "SUPPRESSED_SENTINEL" Bundle.listD A s' s'.heap := by rw [hhp]; exact vx_Zq.moved hW0.alike (hN.kept hS.2.1)
  have h : ∀ w ∈ Bundle.ownAtoms own ic cls names, w.before args s' = true := vx_own hat' (vx_isRefq hU'.1) (vx_isRefq hN'.1) hU'.2.word hN'.2.word
  have hown' : s'.vm.findClass own = some m.cls := by rw [hvm]; exact hown
  have hins : (Cond.instantiable cls 6).before args s' = true := h _ (by simp [Bundle.ownAtoms])
  obtain ⟨vm₁, cX, kX, hfX, hkX, -, -, X₁, st1⟩ := Y.newCold hexec (own := own) (C := cls) (index := ik) (n := 6) hown' hk' hins hini'
    (g := F0 m pc ls rest) rfl (by rw [hb]; exact d0) (Nat.le_refl _) (Nat.le_refl _)
  generalize hT1 : (T.setVm vm₁).pushCell { cls := cX, slots := kX.instanceTypes.map defaultValue, vm := .none } = T1 at X₁ st1
  have hcat : (Value.ref T.heap.size).category = 1 := rfl
  have hcellA : T1.heap[T.heap.size]? = some (freshCell cX kX) := by rw [← hT1]; exact State.heap_pushCell_size _ _
  have d3' : decode c.code (pc + 3) = .ok (.dup, 1) := by rw [hb]; exact d3
  have d4' : decode c.code (pc + 4) = .ok (.ldc is, 2) := by rw [hb]; exact d4
  have hstr' : vk_R own is text sa s' := vk_R.warm hW0 hstr
  obtain ⟨V, ce, L, Z, hL, hlt, hcl9, hvm9, st⟩ := vx_ctorMadeS X₁ hexec htr (own := own) (cls := cls) (names := names) (ic := ic) hown' hcls hnames h (fun x hx => nomatch hx) hfX hkX hcellA (by rw [hhp]; exact Nat.le_refl _) (msg := .ref sa) rfl
    (g := { method := m, pc := pc + 6, locals := ls, stack := .ref sa :: .ref T.heap.size :: .ref T.heap.size :: rest, locked := none }) rfl hsize (rest := rest) rfl
    (by rw [hb]; exact d6) hRframes (by simp only [List.map_cons, List.sum_cons, hcat]; omega)
  have Z0 := Stand.forget (locs := []) Z (fun y hy => by rw [hL y hy, hhp]; exact Nat.le_refl _)
  obtain ⟨f1, f2⟩ := vx_frame Z0.same
  rw [hhp] at f1 f2
  have hcid : ce.cls = D.1 ci := by
    rw [hcl9]
    have h1 := (hK.1 ci _ hc).2.1
    rw [hvm] at hfX
    exact Option.some.inj (hfX.symm.trans h1)
  have hh : (V.setCell T.heap.size ce).heap[T.heap.size]? = some ce := heapAt_setCell_self (s := V) ce hlt
  subst hA'
  have X5 := vx_back9 X Y Z0
  have X6 : Stand p l e R s m args below meth c (V.setCell T.heap.size ce) locs (cells + 1) (slots + 6) := { X5 with same := X5.same.mono (by omega) (by omega) }
  have hk9 : ∀ (k : Nat) (x : Nat × va_E), ws[k]? = some x → (V.setCell T.heap.size ce).heap[x.1]? = T.heap[x.1]? := fun k x hx => f2 x.1 ((hP k x hx).lt) (fun z hz => nomatch hz)
  obtain ⟨t, a1, b1⟩ := kk T.heap.size (V.setCell T.heap.size ce).heap ((hP.kept hk9).app (fun k x hx => by
      have hz : k < 1 := (List.getElem?_eq_some_iff.mp hx).1
      rw [show k = 0 by omega] at hx
      cases hx
      exact ⟨_, hc, ce, hh, hcid, hvm9, fun k hk => absurd hk (Nat.not_lt_zero k)⟩)) (hD.push hP rfl (hA _ hS.1)) ⟨Nat.le_trans hS.1 f1, fun q h1 h2 => (f2 q (Nat.lt_of_lt_of_le h1 hS.1) (fun z hz => nomatch hz)).trans (hS.2.1 q h1 h2), hS.2.2⟩ _ rfl X6
  refine ⟨t, st1 _ ?_, b1⟩
  show Steps p.tables e below (T1.setTop { method := m, pc := pc + 3, locals := ls, stack := .ref T.heap.size :: rest, locked := none }) _
  jvm_step X₁.here [X₁.here.top, hexec, d3', Value.category]
  exact X₁.ldcString hexec (own := own) (text := text) (index := is) (a := sa) hown' hstr'.1 hstr'.2
    (g := { method := m, pc := pc + 4, locals := ls, stack := .ref T.heap.size :: .ref T.heap.size :: rest, locked := none }) rfl d4' _ (st _ a1)
/-- 'new E()' that isn't thrown at once: the object goes on the stack -/
theorem vx_make0 {cc : ByteArray} {pc : Nat} (hexec : p.tables.exec = Jvm.exec) (hb : c.code = cc) (hl : l.stackTraces = false) {own cls : String} {names : List String} {ik ic ci : Nat} {A : Nat → Prop} {T0 : u_T}
    (hown : s.vm.findClass own = some m.cls) (hcls : Bundle.fit cls = true) (hnames : ∀ n ∈ names, Bundle.fit n = true)
    (hk : (Cond.classLink own ik cls).before args s = true) (hini : (Cond.initialized cls).before args s = true) (hat : ∀ w ∈ vx_at0 own ic cls names, w.before args s = true)
    (hgood : ∀ w ∈ Cond.classLink own ik cls :: Cond.initialized cls :: vx_at0 own ic cls names, vx_ot w = true)
    (hU : vx_Zq Bundle.tN "UNASSIGNED_STACK" Bundle.steD A s s.heap) (hN : vx_Zq Bundle.tN "SUPPRESSED_SENTINEL" Bundle.listD A s s.heap) (hS : va_S A s.heap H locs) (hsize : ls.size = c.maxLocals)
    (d0 : decode cc pc = .ok (.new ik, 3)) (d3 : decode cc (pc + 3) = .ok (.dup, 1)) (d4 : decode cc (pc + 4) = .ok (.invokespecial ic, 3))
    (hK : va_K D cl tys s) (hP : va_P D cl ws H) (hD : va_D A ws) (hA : ∀ q, s.heap.size ≤ q → A q) (hc : cl[ci]? = some (cls, T0, 0))
    (hRframes : names.length + 3 < R.frames) (hRlocals : (rest.map fun v => v.category).sum + (13 * (names.length + 1) + 42) ≤ R.locals) (hRcells : cells + 1 ≤ R.cells) (hRslots : slots + 6 ≤ R.slots)
    (kk : ∀ (q : Nat) (H1 : Heap), va_P D cl (ws ++ [(q, .inr (ci, []))]) H1 → va_D A (ws ++ [(q, .inr (ci, []))]) → va_S A s.heap H1 locs → W p l e R s m args below meth c H1 locs (cells + 1) (slots + 6) Q (F0 m (pc + 7) ls (.ref q :: rest))) :
    W p l e R s m args below meth c H locs cells slots Q (F0 m pc ls rest) := by
  intro T hT X
  subst hT
  have htr : e.platform.stackTraces = false := (show e.platform.stackTraces = l.stackTraces by rw [X.admits.platform]).trans hl
  have Y := vx_rebase X (R' := { frames := R.frames, locals := R.locals, cells := 1, slots := 6 }) (Nat.le_refl _) (Nat.le_refl _) hRcells hRslots
  obtain ⟨s', hA'⟩ : ∃ z, z = (T.setVm s.vm).setFrames (.invoking m args :: below) := ⟨_, rfl⟩
  rw [← hA'] at Y
  have hvm : s'.vm = s.vm := by rw [hA']; rfl
  have hhp : s'.heap = T.heap := by rw [hA']; rfl
  have hW0 : s.WarmedH s'.vm := by rw [hvm]; exact State.WarmedH.refl s
  have hat' : ∀ w ∈ vx_at0 own ic cls names, w.before args s' = true := fun w hw => vx_ot_at hW0 hvm.symm (hgood w (List.mem_cons_of_mem _ (List.mem_cons_of_mem _ hw))) (hat w hw)
  have hk' : (Cond.classLink own ik cls).before args s' = true := vx_ot_at hW0 hvm.symm (hgood _ List.mem_cons_self) hk
  have hini' : (Cond.initialized cls).before args s' = true := vx_ot_at hW0 hvm.symm (hgood _ (List.mem_cons_of_mem _ List.mem_cons_self)) hini
  have hU' : vx_Zq Bundle.tN "UNASSIGNED_STACK" Bundle.steD A s' s'.heap := by rw [hhp]; exact vx_Zq.moved hW0.alike (hU.kept hS.2.1)
  have hN' : vx_Zq Bundle.tN "SUPPRESSED_SENTINEL" Bundle.listD A s' s'.heap := by rw [hhp]; exact vx_Zq.moved hW0.alike (hN.kept hS.2.1)
  have h : ∀ w ∈ Bundle.ownAtoms0 own ic cls names, w.before args s' = true := vx_own hat' (vx_isRefq hU'.1) (vx_isRefq hN'.1) hU'.2.word hN'.2.word
  have hown' : s'.vm.findClass own = some m.cls := by rw [hvm]; exact hown
  have hins : (Cond.instantiable cls 6).before args s' = true := h _ (by simp [Bundle.ownAtoms0])
  obtain ⟨vm₁, cX, kX, hfX, hkX, -, -, X₁, st1⟩ := Y.newCold hexec (own := own) (C := cls) (index := ik) (n := 6) hown' hk' hins hini'
    (g := F0 m pc ls rest) rfl (by rw [hb]; exact d0) (Nat.le_refl _) (Nat.le_refl _)
  generalize hT1 : (T.setVm vm₁).pushCell { cls := cX, slots := kX.instanceTypes.map defaultValue, vm := .none } = T1 at X₁ st1
  have hcat : (Value.ref T.heap.size).category = 1 := rfl
  have hcellA : T1.heap[T.heap.size]? = some (freshCell cX kX) := by rw [← hT1]; exact State.heap_pushCell_size _ _
  have d3' : decode c.code (pc + 3) = .ok (.dup, 1) := by rw [hb]; exact d3
  obtain ⟨V, ce, L, Z, hL, hlt, hcl9, hvm9, st⟩ := vx_ctorMade0 X₁ hexec htr (own := own) (cls := cls) (names := names) (ic := ic) hown' hcls hnames h (fun x hx => nomatch hx) hfX hkX hcellA (by rw [hhp]; exact Nat.le_refl _)
    (g := { method := m, pc := pc + 4, locals := ls, stack := .ref T.heap.size :: .ref T.heap.size :: rest, locked := none }) rfl hsize (rest := rest) rfl
    (by rw [hb]; exact d4) hRframes (by simp only [List.map_cons, List.sum_cons, hcat]; omega)
  have Z0 := Stand.forget (locs := []) Z (fun y hy => by rw [hL y hy, hhp]; exact Nat.le_refl _)
  obtain ⟨f1, f2⟩ := vx_frame Z0.same
  rw [hhp] at f1 f2
  have hcid : ce.cls = D.1 ci := by
    rw [hcl9]
    have h1 := (hK.1 ci _ hc).2.1
    rw [hvm] at hfX
    exact Option.some.inj (hfX.symm.trans h1)
  have hh : (V.setCell T.heap.size ce).heap[T.heap.size]? = some ce := heapAt_setCell_self (s := V) ce hlt
  subst hA'
  have X5 := vx_back9 X Y Z0
  have X6 : Stand p l e R s m args below meth c (V.setCell T.heap.size ce) locs (cells + 1) (slots + 6) := { X5 with same := X5.same.mono (by omega) (by omega) }
  have hk9 : ∀ (k : Nat) (x : Nat × va_E), ws[k]? = some x → (V.setCell T.heap.size ce).heap[x.1]? = T.heap[x.1]? := fun k x hx => f2 x.1 ((hP k x hx).lt) (fun z hz => nomatch hz)
  obtain ⟨t, a1, b1⟩ := kk T.heap.size (V.setCell T.heap.size ce).heap ((hP.kept hk9).app (fun k x hx => by
      have hz : k < 1 := (List.getElem?_eq_some_iff.mp hx).1
      rw [show k = 0 by omega] at hx
      cases hx
      exact ⟨_, hc, ce, hh, hcid, hvm9, fun k hk => absurd hk (Nat.not_lt_zero k)⟩)) (hD.push hP rfl (hA _ hS.1)) ⟨Nat.le_trans hS.1 f1, fun q h1 h2 => (f2 q (Nat.lt_of_lt_of_le h1 hS.1) (fun z hz => nomatch hz)).trans (hS.2.1 q h1 h2), hS.2.2⟩ _ rfl X6
  refine ⟨t, st1 _ ?_, b1⟩
  show Steps p.tables e below (T1.setTop { method := m, pc := pc + 3, locals := ls, stack := .ref T.heap.size :: rest, locked := none }) _
  jvm_step X₁.here [X₁.here.top, hexec, d3', Value.category]
  exact st _ a1
/-- 'throw x' of an object that was made before -/
theorem vx_athrow {cc : ByteArray} {pc : Nat} (hexec : p.tables.exec = Jvm.exec) (hb : c.code = cc) {q : Addr} (hdg : decode cc pc = .ok (.athrow, 1)) (k : vx_W p l e R s m args below meth c H locs cells slots Q (F0 m pc ls rest) q) : W p l e R s m args below meth c H locs cells slots Q (F0 m pc ls (.ref q :: rest)) := by
  intro T hT X
  obtain ⟨t, st, hq⟩ := k T hT X
  refine ⟨t, ?_, hq⟩
  have hdg' : decode c.code pc = .ok (.athrow, 1) := by rw [hb]; exact hdg
  jvm_step X.here [X.here.top, hexec, hdg', athrow.wp_sem]
  exact st
end VXK2
/-! ===== END ===== -/
/-! ===== BEGIN a constructor that throws (launches without stack traces) ===== -/
section VXIA
variable {p : Program} {l : Launch} {e : Env} {R : Room} {s : State} {m : MethodId} {args : Array Value} {below : List Frame} {meth : Method} {c : Code} {T : State} {locs : List Loc} {cells slots : Nat}
theorem vx_callI (X : Stand p l e R s m args below meth c T locs cells slots) (hexec : p.tables.exec = Jvm.exec) {own : String} {index : Nat} {y : MethodName} {bytes : ByteArray} {maxL : Nat}
    (hown : s.vm.findClass own = some m.cls) (hy1 : y.name = "<init>") (hlink : (Cond.methodLink own index y).before args s = true) (hinst : (Cond.instanceMethod y).before args s = true)
    (hcode : (Cond.code y bytes maxL none).before args s = true) (hy : y.cls ≠ "java/lang/invoke/MethodHandle" ∧ y.cls ≠ "java/lang/invoke/VarHandle")
    {W9 : Nat} {Pre : Pt → Array Value → Prop} {Post : Pt → Array Value → Option Value → Pt → Prop} {PostX : Pt → Array Value → Addr → Pt → Prop} (hK : vx_Back l R p e below s args y 3 W9 Pre Post PostX)
    {g : JFrame} (hg : g.method = m) (hsize : g.locals.size = c.maxLocals) {a : Addr} {argsL rest : List Value} (hlen : ∀ sig, parseMethodDescriptor y.desc = some sig → argsL.length = sig.parameters.length)
    (hstack : g.stack = argsL.reverse ++ .ref a :: rest) (hW : 2 * g.monitorRoom + (rest.map fun v => v.category).sum ≤ W9) (hdg : decode c.code g.pc = .ok (.invokespecial index, 3))
    (hpre : ∀ vm₁, s.WarmedH vm₁ → Pre ⟨T.setVm vm₁, locs, cells, slots⟩ (Value.ref a :: argsL).toArray) :
    (∃ (v : Option Value) (vm₁ : Vm) (B : Pt), s.WarmedH vm₁ ∧ Stand p l e R s m args below meth c B.U B.locs B.cells B.slots ∧ Post ⟨T.setVm vm₁, locs, cells, slots⟩ (Value.ref a :: argsL).toArray v B ∧
      ∀ target, Steps p.tables e below (B.U.setTop { g with pc := g.pc + 3, stack := v.toList ++ rest }) target → Steps p.tables e below (T.setTop g) target) ∨
    (∃ (q : Addr) (vm₁ : Vm) (B : Pt), s.WarmedH vm₁ ∧ Stand p l e R s m args below meth c B.U B.locs B.cells B.slots ∧ PostX ⟨T.setVm vm₁, locs, cells, slots⟩ (Value.ref a :: argsL).toArray q B ∧
      Steps p.tables e below (T.setTop g) ((B.U.setTop { g with stack := rest }).pushFrame (.throwing q))) := by
  subst hg
  have hpl : e.platform.magicAccessors = ({} : Platform).magicAccessors := by rw [X.admits.platform]
  obtain ⟨mk, methM, cM, kP, vm₁, hnamed, hmethM, hcodeM, -, hlocalsM, -, hkP, -, hW₁, hstep₁⟩ := Steps.initColdArgs (e := e) X.here hexec X.warmed hpl hown hy1 hy hlink hinst hcode (f := g) rfl hlen hstack hdg
  have X₁ := X.noted hW₁
  rcases hK g.method meth c ⟨T.setVm vm₁, locs, cells, slots⟩ { g with stack := rest } (.invokespecial index) mk (Value.ref a :: argsL).toArray X₁ rfl hsize hdg hW (X₁.named hnamed) (hpre vm₁ X₁.warmed) with ⟨v, B, X', hpost, hsteps⟩ | ⟨q, B, X', hpost, hsteps⟩
  · exact Or.inl ⟨v, vm₁, B, X₁.warmed, X', hpost, fun target h => hstep₁ _ fun acts => by rw [doInvoke_state]; exact hsteps.trans h⟩
  · exact Or.inr ⟨q, vm₁, B, X₁.warmed, X', hpost, hstep₁ _ fun acts => by rw [doInvoke_state]; exact hsteps⟩
end VXIA
section VXIB
variable {p : Program} {l : Launch} {e : Env} {R : Room} {s : State} {m : MethodId} {args : Array Value} {below : List Frame} {meth : Method} {c : Code} {H : Heap} {locs : List Loc} {cells slots : Nat}
variable {y : MethodName} {bytes cc : ByteArray} {maxL nL mc ms n index : Nat} {ret : Option FieldType} {ws : List Cond} {rm : Room} {Pc : Array Value → State → Prop} {Qc : Array Value → State → Outcome → State → Prop} {XC : String → State → State → Prop} {free : Addr → Prop} {Ts : List Cond} {own C : String} {b : Addr} {As rest : List Value} {g : JFrame}
theorem vx_runI (S : CallFix p m c cc nL s args Ts own) (hM : vx_Met l y ws rm Pc Qc XC mc ms free) (cw : CallB R s args own index y bytes maxL none ws rm mc ms n ∧ y.name = "<init>" ∧ (Cond.instanceMethod y).before args s = true) (hp : PreS s H Pc (.ref b :: As))
    (hg : g.method = m) (hn : As.length = n) (hsize : g.locals.size = nL) (hstack : g.stack = As.reverse ++ .ref b :: rest) (hW : 2 * g.monitorRoom + (rest.map fun v => v.category).sum ≤ 8) (hdg : decode cc g.pc = .ok (.invokespecial index, 3)) (hf : cells + mc ≤ R.cells ∧ slots + ms ≤ R.slots) :
    vx_Run p l e R s m args below meth c H locs cells slots mc ms g rest (Qc (Value.ref b :: As).toArray) XC free := by
  have hK : vx_Back l R p e below s args y 3 8 (PreOf R mc ms Pc) (PostOf Qc mc ms free) (vx_Post XC mc ms free) := vx_callBack cw.1 hM hp.1
  obtain ⟨⟨-, -, -, -, -, -, hcode, -, hy, hlen, hl⟩, hy1, hin⟩ := cw
  obtain ⟨hx, hb, hml, ho, -⟩ := S
  have hPc := hp.2
  intro T hT X
  rcases vx_callI X hx (bytes := bytes) (maxL := maxL) ho hy1 hl hin hcode hy hK hg (hsize.trans hml.symm) (a := b) (argsL := As) (rest := rest) (fun sig h => hn.trans (hlen sig h)) hstack hW (by rw [hb]; exact hdg)
    (fun vm₁ hW₁ => ⟨hf.1, hf.2, hPc (T.setVm vm₁) hT hW₁⟩) with ⟨v, vm₁, ⟨U', l2, c2, s2⟩, hW₁, X', ⟨g', mk, t, L, e1, e2, hq, h1, hL, h2, h3⟩, st⟩ | ⟨q, vm₁, ⟨U', l2, c2, s2⟩, hW₁, X', ⟨g', mk, t, L, E, ce, e1, e2, hq, hce, hcv, hcl, h1, hL, h2, h3⟩, st⟩
  · dsimp only [Pt.U, Pt.locs, Pt.cells, Pt.slots] at X' e1 e2 h1 h2 h3 st
    subst h1; subst h2; subst h3
    exact Or.inl ⟨v, (T.setVm vm₁).calling g' mk (Value.ref b :: As).toArray, t, U', L, hT, X', hL, e1, e2, hq, st⟩
  · dsimp only [Pt.U, Pt.locs, Pt.cells, Pt.slots] at X' e1 e2 h1 h2 h3 st hcl
    subst h1; subst h2; subst h3
    exact Or.inr ⟨q, (T.setVm vm₁).calling g' mk (Value.ref b :: As).toArray, t, U', L, E, ce, hT, X', hL, e1, e2, hq, hce, hcv, vx_cls hW₁ hcl, st⟩
end VXIB
/-! ===== END ===== -/
/-! ===== BEGIN a private constructor of a nest mate that throws ===== -/
section VXIC
variable {p : Program} {l : Launch} {e : Env} {R : Room} {s : State} {m : MethodId} {args : Array Value} {below : List Frame} {meth : Method} {c : Code} {T : State} {locs : List Loc} {cells slots : Nat}
theorem vx_callIN (X : Stand p l e R s m args below meth c T locs cells slots) (hexec : p.tables.exec = Jvm.exec) {own : String} {index : Nat} {host : String} {y : MethodName} {bytes : ByteArray} {maxL : Nat}
    (hown : s.vm.findClass own = some m.cls) (hy1 : y.name = "<init>") (hlink : (Cond.methodLinkNest own index y host).before args s = true) (hinst : (Cond.instanceMethod y).before args s = true)
    (hcode : (Cond.code y bytes maxL none).before args s = true) (hy : y.cls ≠ "java/lang/invoke/MethodHandle" ∧ y.cls ≠ "java/lang/invoke/VarHandle")
    {W9 : Nat} {Pre : Pt → Array Value → Prop} {Post : Pt → Array Value → Option Value → Pt → Prop} {PostX : Pt → Array Value → Addr → Pt → Prop} (hK : vx_Back l R p e below s args y 3 W9 Pre Post PostX)
    {g : JFrame} (hg : g.method = m) (hsize : g.locals.size = c.maxLocals) {a : Addr} {argsL rest : List Value} (hlen : ∀ sig, parseMethodDescriptor y.desc = some sig → argsL.length = sig.parameters.length)
    (hstack : g.stack = argsL.reverse ++ .ref a :: rest) (hW : 2 * g.monitorRoom + (rest.map fun v => v.category).sum ≤ W9) (hdg : decode c.code g.pc = .ok (.invokespecial index, 3))
    (hpre : ∀ vm₁, s.WarmedH vm₁ → Pre ⟨T.setVm vm₁, locs, cells, slots⟩ (Value.ref a :: argsL).toArray) :
    (∃ (v : Option Value) (vm₁ : Vm) (B : Pt), s.WarmedH vm₁ ∧ Stand p l e R s m args below meth c B.U B.locs B.cells B.slots ∧ Post ⟨T.setVm vm₁, locs, cells, slots⟩ (Value.ref a :: argsL).toArray v B ∧
      ∀ target, Steps p.tables e below (B.U.setTop { g with pc := g.pc + 3, stack := v.toList ++ rest }) target → Steps p.tables e below (T.setTop g) target) ∨
    (∃ (q : Addr) (vm₁ : Vm) (B : Pt), s.WarmedH vm₁ ∧ Stand p l e R s m args below meth c B.U B.locs B.cells B.slots ∧ PostX ⟨T.setVm vm₁, locs, cells, slots⟩ (Value.ref a :: argsL).toArray q B ∧
      Steps p.tables e below (T.setTop g) ((B.U.setTop { g with stack := rest }).pushFrame (.throwing q))) := by
  subst hg
  have hpl : e.platform.magicAccessors = ({} : Platform).magicAccessors := by rw [X.admits.platform]
  obtain ⟨mk, methM, cM, kP, vm₁, hnamed, hmethM, hcodeM, -, hlocalsM, -, hkP, -, hW₁, hstep₁⟩ := Steps.initColdArgsNest (e := e) X.here hexec X.warmed hpl hown hy1 hy hlink hinst hcode (f := g) rfl hlen hstack hdg
  have X₁ := X.noted hW₁
  rcases hK g.method meth c ⟨T.setVm vm₁, locs, cells, slots⟩ { g with stack := rest } (.invokespecial index) mk (Value.ref a :: argsL).toArray X₁ rfl hsize hdg hW (X₁.named hnamed) (hpre vm₁ X₁.warmed) with ⟨v, B, X', hpost, hsteps⟩ | ⟨q, B, X', hpost, hsteps⟩
  · exact Or.inl ⟨v, vm₁, B, X₁.warmed, X', hpost, fun target h => hstep₁ _ fun acts => by rw [doInvoke_state]; exact hsteps.trans h⟩
  · exact Or.inr ⟨q, vm₁, B, X₁.warmed, X', hpost, hstep₁ _ fun acts => by rw [doInvoke_state]; exact hsteps⟩
end VXIC
section VXID
variable {p : Program} {l : Launch} {e : Env} {R : Room} {s : State} {m : MethodId} {args : Array Value} {below : List Frame} {meth : Method} {c : Code} {H : Heap} {locs : List Loc} {cells slots : Nat}
theorem vx_runIN {y : MethodName} {bytes cc : ByteArray} {maxL nL mc ms n index : Nat} {ws : List Cond} {rm : Room} {Pc : Array Value → State → Prop} {Qc : Array Value → State → Outcome → State → Prop} {XC : String → State → State → Prop} {free : Addr → Prop} {Ts : List Cond} {own host : String} {b : Addr} {As rest : List Value} {g : JFrame}
    (S : CallFix p m c cc nL s args Ts own) (hM : vx_Met l y ws rm Pc Qc XC mc ms free) (cw : va_CN R s args own index y host bytes maxL none ws rm mc ms n ∧ y.name = "<init>" ∧ (Cond.instanceMethod y).before args s = true) (hp : PreS s H Pc (.ref b :: As))
    (hg : g.method = m) (hn : As.length = n) (hsize : g.locals.size = nL) (hstack : g.stack = As.reverse ++ .ref b :: rest) (hW : 2 * g.monitorRoom + (rest.map fun v => v.category).sum ≤ 8) (hdg : decode cc g.pc = .ok (.invokespecial index, 3)) (hf : cells + mc ≤ R.cells ∧ slots + ms ≤ R.slots) :
    vx_Run p l e R s m args below meth c H locs cells slots mc ms g rest (Qc (Value.ref b :: As).toArray) XC free := by
  obtain ⟨⟨⟨hrc, hrs, hfr, hlo, hws, hcw⟩, hcode, hini, hy, hlen, hl⟩, hx1, hx2⟩ := cw
  have hK : vx_Back l R p e below s args y 3 8 (PreOf R mc ms Pc) (PostOf Qc mc ms free) (vx_Post XC mc ms free) := vx_back (bytes := bytes) (maxL := maxL) (ret := none) hM hp.1 hrc hrs hfr hlo hws hcw (fun a' U hW => word_at hW (Or.inl (by first | rfl | simp [Cond.onTables, Cond.keeps, Cond.steady])) hini)
  obtain ⟨hx, hb, hml, ho, -⟩ := S
  have hPc := hp.2
  intro T hT X
  rcases vx_callIN X hx (bytes := bytes) (maxL := maxL) ho hx1 hl hx2 hcode hy hK hg (hsize.trans hml.symm) (a := b) (argsL := As) (rest := rest) (fun sig h => hn.trans (hlen sig h)) hstack hW (by rw [hb]; exact hdg)
    (fun vm₁ hW₁ => ⟨hf.1, hf.2, hPc (T.setVm vm₁) hT hW₁⟩) with ⟨v, vm₁, ⟨U', l2, c2, s2⟩, hW₁, X', ⟨g', mk, t, L, e1, e2, hq, h1, hL, h2, h3⟩, st⟩ | ⟨q, vm₁, ⟨U', l2, c2, s2⟩, hW₁, X', ⟨g', mk, t, L, E, ce, e1, e2, hq, hce, hcv, hcl, h1, hL, h2, h3⟩, st⟩
  · dsimp only [Pt.U, Pt.locs, Pt.cells, Pt.slots] at X' e1 e2 h1 h2 h3 st
    subst h1; subst h2; subst h3
    exact Or.inl ⟨v, (T.setVm vm₁).calling g' mk (Value.ref b :: As).toArray, t, U', L, hT, X', hL, e1, e2, hq, st⟩
  · dsimp only [Pt.U, Pt.locs, Pt.cells, Pt.slots] at X' e1 e2 h1 h2 h3 st hcl
    subst h1; subst h2; subst h3
    exact Or.inr ⟨q, (T.setVm vm₁).calling g' mk (Value.ref b :: As).toArray, t, U', L, E, ce, hT, X', hL, e1, e2, hq, hce, hcv, vx_cls hW₁ hcl, st⟩
end VXID
/-! ===== END ===== -/
/-! ===== BEGIN a method of a class above, found by the receiver, that may throw (follows va_callVU, va_runU of this kit) ===== -/
section
variable {p : Program} {l : Launch} {e : Env} {R : Room} {s : State} {m : MethodId} {args : Array Value} {below : List Frame} {meth : Method} {c : Code} {H : Heap} {locs : List Loc} {cells slots : Nat}
theorem vx_callVU {T : State} {locs : List Loc} {cells slots : Nat} (X : Stand p l e R s m args below meth c T locs cells slots) (hexec : p.tables.exec = Jvm.exec) {own C owner : String} {index : Nat} {x y : MethodName} {bytes : ByteArray} {maxL : Nat} {ret : Option FieldType}
    (hown : s.vm.findClass own = some m.cls) (hlink : (Cond.methodLink own index x).before args s = true) (hsame : (Cond.sameMethod x.cls owner x.name x.desc).before args s = true)
    (hd0 : va_Decl s ⟨owner, x.name, x.desc⟩) (howner : owner ≠ "java/lang/invoke/MethodHandle" ∧ owner ≠ "java/lang/invoke/VarHandle")
    (hsel : (Cond.selects C x y).before args s = true) (hinst : (Cond.instanceMethod y).before args s = true) (hcode : (Cond.code y bytes maxL ret).before args s = true)
    {W : Nat} {Pre : Pt → Array Value → Prop} {Post : Pt → Array Value → Option Value → Pt → Prop} {PostX : Pt → Array Value → Addr → Pt → Prop} (hK : vx_Back l R p e below s args y 3 W Pre Post PostX)
    {b : Addr} {cellB : Cell} (hcell : T.heap[b]? = some cellB) (hobj : cellB.vm.isStatics = false) (hcls : s.vm.findClass C = some cellB.cls)
    {g : JFrame} (hg : g.method = m) (hsize : g.locals.size = c.maxLocals) {argsL rest : List Value} (hlen : ∀ sig, parseMethodDescriptor x.desc = some sig → argsL.length = sig.parameters.length)
    (hstack : g.stack = argsL.reverse ++ .ref b :: rest) (hW : 2 * g.monitorRoom + (rest.map fun v => v.category).sum ≤ W) (hdg : decode c.code g.pc = .ok (.invokevirtual index, 3))
    (hpre : ∀ vm₁, s.WarmedH vm₁ → Pre ⟨T.setVm vm₁, locs, cells, slots⟩ (Value.ref b :: argsL).toArray) :
    (∃ (v : Option Value) (vm₁ : Vm) (B : Pt), s.WarmedH vm₁ ∧ Stand p l e R s m args below meth c B.U B.locs B.cells B.slots ∧ Post ⟨T.setVm vm₁, locs, cells, slots⟩ (Value.ref b :: argsL).toArray v B ∧
      ∀ target, Steps p.tables e below (B.U.setTop { g with pc := g.pc + 3, stack := v.toList ++ rest }) target → Steps p.tables e below (T.setTop g) target) ∨
    (∃ (q : Addr) (vm₁ : Vm) (B : Pt), s.WarmedH vm₁ ∧ Stand p l e R s m args below meth c B.U B.locs B.cells B.slots ∧ PostX ⟨T.setVm vm₁, locs, cells, slots⟩ (Value.ref b :: argsL).toArray q B ∧
      Steps p.tables e below (T.setTop g) ((B.U.setTop { g with stack := rest }).pushFrame (.throwing q))) := by
  obtain ⟨r0, r, hn, hrm, hstR, hsigR⟩ := hd0
  obtain ⟨cn, ck, r1, hcn, hck, hni, hf, hn1⟩ := Cond.sameMethod_found hsame
  cases hn.symm.trans hn1
  obtain ⟨mk, methM, hnamed, hmethM, -, habM⟩ := Cond.instanceMethod_spec hinst
  obtain ⟨c2, r2, m2, q1, q2, q3, q4, kP, hkP, hkPi⟩ := Cond.selects_spec hsel
  cases hcls.symm.trans q1
  cases hf.symm.trans q2
  cases hnamed.symm.trans q3
  have hselP : selectMethod e.platform s.vm cellB.cls r0 = .method mk := by rw [Launch.admits_selectMethod X.admits]; exact q4
  obtain ⟨vm₁, X₁, hstep₁⟩ := X.invokevirtualUp hexec hown hlink hsame howner hn hrm hstR (a := b) (cell := cellB) hcell
    (fun z h => by rw [h] at hobj; cases hobj) hselP hmethM habM hkP hkPi (g := g) hg (argsL := argsL) (rest := rest) (hlen _ hsigR) hstack hdg
  rcases hK m meth c ⟨T.setVm vm₁, locs, cells, slots⟩ { g with stack := rest } (.invokevirtual index) mk (Value.ref b :: argsL).toArray X₁ hg hsize hdg hW (X₁.named hnamed) (hpre vm₁ X₁.warmed) with ⟨v, B, X', hpost, hsteps⟩ | ⟨q, B, X', hpost, hsteps⟩
  · exact Or.inl ⟨v, vm₁, B, X₁.warmed, X', hpost, fun target h => hstep₁ _ fun acts => by rw [doInvoke_state]; exact hsteps.trans h⟩
  · exact Or.inr ⟨q, vm₁, B, X₁.warmed, X', hpost, hstep₁ _ fun acts => by rw [doInvoke_state]; exact hsteps⟩
theorem vx_runU {x y : MethodName} {bytes cc : ByteArray} {maxL nL mc ms n index : Nat} {ret : Option FieldType} {ws : List Cond} {rm : Room} {Pc : Array Value → State → Prop} {Qc : Array Value → State → Outcome → State → Prop} {XC : String → State → State → Prop} {free : Addr → Prop} {Ts : List Cond} {own C owner : String} {b : Addr} {As rest : List Value} {g : JFrame}
    (S : CallFix p m c cc nL s args Ts own) (hM : vx_Met l y ws rm Pc Qc XC mc ms free) (cw : va_CU R s args own C owner index x y bytes maxL ret ws rm mc ms n) (hp : PreV s H C b Pc As)
    (hg : g.method = m) (hn : As.length = n) (hsize : g.locals.size = nL) (hstack : g.stack = As.reverse ++ .ref b :: rest) (hW : 2 * g.monitorRoom + (rest.map fun v => v.category).sum ≤ 8) (hdg : decode cc g.pc = .ok (.invokevirtual index, 3)) (hf : cells + mc ≤ R.cells ∧ slots + ms ≤ R.slots) :
    vx_Run p l e R s m args below meth c H locs cells slots mc ms g rest (Qc (Value.ref b :: As).toArray) XC free := by
  obtain ⟨hrc, hrs, hfr, hlo, hws, hcw⟩ := cw.back
  have hini := cw.init
  have hK : vx_Back l R p e below s args y 3 8 (PreOf R mc ms Pc) (PostOf Qc mc ms free) (vx_Post XC mc ms free) := vx_back (bytes := bytes) (maxL := maxL) (ret := ret) hM hp.1 hrc hrs hfr hlo hws hcw (fun a' U hW => word_at hW (Or.inl (by first | rfl | simp [Cond.onTables, Cond.keeps, Cond.steady])) hini)
  obtain ⟨hx, hb, hml, ho, -⟩ := S
  obtain ⟨-, ⟨cellB, hcB, hoB, hclB⟩, hPc⟩ := hp
  intro T hT X
  rcases vx_callVU X hx (C := C) (owner := owner) (bytes := bytes) (maxL := maxL) (ret := ret) ho cw.link cw.same cw.decl cw.notMH cw.sel cw.inst cw.code hK (by rw [hT]; exact hcB) hoB hclB hg (hsize.trans hml.symm) (argsL := As) (rest := rest) (fun sig h => hn.trans (cw.len sig h)) hstack hW (by rw [hb]; exact hdg)
    (fun vm₁ hW₁ => ⟨hf.1, hf.2, hPc (T.setVm vm₁) hT hW₁⟩) with ⟨v, vm₁, ⟨U', l2, c2, s2⟩, hW₁, X', ⟨g', mk, t, L, e1, e2, hq, h1, hL, h2, h3⟩, st⟩ | ⟨q, vm₁, ⟨U', l2, c2, s2⟩, hW₁, X', ⟨g', mk, t, L, E, ce, e1, e2, hq, hce, hcv, hcl, h1, hL, h2, h3⟩, st⟩
  · dsimp only [Pt.U, Pt.locs, Pt.cells, Pt.slots] at X' e1 e2 h1 h2 h3 st
    subst h1; subst h2; subst h3
    exact Or.inl ⟨v, (T.setVm vm₁).calling g' mk (Value.ref b :: As).toArray, t, U', L, hT, X', hL, e1, e2, hq, st⟩
  · dsimp only [Pt.U, Pt.locs, Pt.cells, Pt.slots] at X' e1 e2 h1 h2 h3 st hcl
    subst h1; subst h2; subst h3
    exact Or.inr ⟨q, (T.setVm vm₁).calling g' mk (Value.ref b :: As).toArray, t, U', L, E, ce, hT, X', hL, e1, e2, hq, hce, hcv, vx_cls hW₁ hcl, st⟩
end
/-! ===== END ===== -/
/-! ===== BEGIN super.m(..) that may throw (follows va_callSU, va_runSU) ===== -/
section
variable {p : Program} {l : Launch} {e : Env} {R : Room} {s : State} {m : MethodId} {args : Array Value} {below : List Frame} {meth : Method} {c : Code} {H : Heap} {locs : List Loc} {cells slots : Nat}
theorem vx_callSU {T : State} {locs : List Loc} {cells slots : Nat} (X : Stand p l e R s m args below meth c T locs cells slots) (hexec : p.tables.exec = Jvm.exec) {own : String} {index : Nat} {y : MethodName} {bytes : ByteArray} {maxL : Nat} {ret : Option FieldType}
    (hown : s.vm.findClass own = some m.cls) (hlink : (Cond.methodLink own index y).before args s = true) (hsame : (Cond.sameMethod y.cls y.cls y.name y.desc).before args s = true) (hsup : (Cond.superclass own y.cls).before args s = true)
    (hinst : (Cond.instanceMethod y).before args s = true) (hcode : (Cond.code y bytes maxL ret).before args s = true) (hno : y.name ≠ "<init>")
    {W : Nat} {Pre : Pt → Array Value → Prop} {Post : Pt → Array Value → Option Value → Pt → Prop} {PostX : Pt → Array Value → Addr → Pt → Prop} (hK : vx_Back l R p e below s args y 3 W Pre Post PostX)
    {b : Addr} {cellB : Cell} {kB : Class} (hcell : T.heap[b]? = some cellB) (hobj : cellB.vm.isStatics = false) (hkB : s.vm.classes[cellB.cls]? = some kB)
    {g : JFrame} (hg : g.method = m) (hsize : g.locals.size = c.maxLocals) {argsL rest : List Value} (hlen : ∀ sig, parseMethodDescriptor y.desc = some sig → argsL.length = sig.parameters.length)
    (hstack : g.stack = argsL.reverse ++ .ref b :: rest) (hW : 2 * g.monitorRoom + (rest.map fun v => v.category).sum ≤ W) (hdg : decode c.code g.pc = .ok (.invokespecial index, 3))
    (hpre : ∀ vm₁, s.WarmedH vm₁ → Pre ⟨T.setVm vm₁, locs, cells, slots⟩ (Value.ref b :: argsL).toArray) :
    (∃ (v : Option Value) (vm₁ : Vm) (B : Pt), s.WarmedH vm₁ ∧ Stand p l e R s m args below meth c B.U B.locs B.cells B.slots ∧ Post ⟨T.setVm vm₁, locs, cells, slots⟩ (Value.ref b :: argsL).toArray v B ∧
      ∀ target, Steps p.tables e below (B.U.setTop { g with pc := g.pc + 3, stack := v.toList ++ rest }) target → Steps p.tables e below (T.setTop g) target) ∨
    (∃ (q : Addr) (vm₁ : Vm) (B : Pt), s.WarmedH vm₁ ∧ Stand p l e R s m args below meth c B.U B.locs B.cells B.slots ∧ PostX ⟨T.setVm vm₁, locs, cells, slots⟩ (Value.ref b :: argsL).toArray q B ∧
      Steps p.tables e below (T.setTop g) ((B.U.setTop { g with stack := rest }).pushFrame (.throwing q))) := by
  obtain ⟨mk, methM, hnamed, hmethM, hstM, habM⟩ := Cond.instanceMethod_spec hinst
  obtain ⟨methM', cM, hmethM', -, -, -, -, -, -, hsigM⟩ := Cond.code_spec hnamed hcode
  cases hmethM.symm.trans hmethM'
  obtain ⟨ps, dk, kp, hps, hdk, hkp, hsuper, -, -, hnid⟩ := Cond.superclass_spec hown hsup
  have hn : s.methodNamed? ⟨y.cls, y.name, y.desc⟩ = some mk := hnamed
  have hpm : ps = mk.cls := Option.some.inj (hps.symm.trans (findClass_of_methodNamed hnamed))
  have hsub : s.vm.isSubclass ps mk.cls = true := by rw [hpm]; simp [Vm.isSubclass, Vm.isSubclassAux]
  obtain ⟨vm₁, X₁, hstep₁⟩ := X.invokespecialUp hexec hown hlink hsame hn hmethM hstM habM hno hdk hnid hps hsuper hsub (a := b) (cell := cellB) hcell
    (fun z h => by rw [h] at hobj; cases hobj) hkB (g := g) hg (argsL := argsL) (rest := rest) (hlen _ hsigM) hstack hdg
  rcases hK m meth c ⟨T.setVm vm₁, locs, cells, slots⟩ { g with stack := rest } (.invokespecial index) mk (Value.ref b :: argsL).toArray X₁ hg hsize hdg hW (X₁.named hnamed) (hpre vm₁ X₁.warmed) with ⟨v, B, X', hpost, hsteps⟩ | ⟨q, B, X', hpost, hsteps⟩
  · exact Or.inl ⟨v, vm₁, B, X₁.warmed, X', hpost, fun target h => hstep₁ _ (by rw [doInvoke_state]; exact hsteps.trans h)⟩
  · exact Or.inr ⟨q, vm₁, B, X₁.warmed, X', hpost, hstep₁ _ (by rw [doInvoke_state]; exact hsteps)⟩
theorem vx_runSU {y : MethodName} {bytes cc : ByteArray} {maxL nL mc ms n index : Nat} {ret : Option FieldType} {ws : List Cond} {rm : Room} {Pc : Array Value → State → Prop} {Qc : Array Value → State → Outcome → State → Prop} {XC : String → State → State → Prop} {free : Addr → Prop} {Ts : List Cond} {own C : String} {cC : ClassId} {b : Addr} {As rest : List Value} {g : JFrame}
    (hat : ClassAt s C cC) (S : CallFix p m c cc nL s args Ts own) (hM : vx_Met l y ws rm Pc Qc XC mc ms free) (cw : va_CS R s args own index y bytes maxL ret ws rm mc ms n) (hp : PreV s H C b Pc As)
    (hg : g.method = m) (hn : As.length = n) (hsize : g.locals.size = nL) (hstack : g.stack = As.reverse ++ .ref b :: rest) (hW : 2 * g.monitorRoom + (rest.map fun v => v.category).sum ≤ 8) (hdg : decode cc g.pc = .ok (.invokespecial index, 3)) (hf : cells + mc ≤ R.cells ∧ slots + ms ≤ R.slots) :
    vx_Run p l e R s m args below meth c H locs cells slots mc ms g rest (Qc (Value.ref b :: As).toArray) XC free := by
  obtain ⟨⟨hrc, hrs, hfr, hlo, hws, hcw⟩, hl1, hl2, hl3, hl4, hini, hcode, hno, hlen⟩ := cw
  have hK : vx_Back l R p e below s args y 3 8 (PreOf R mc ms Pc) (PostOf Qc mc ms free) (vx_Post XC mc ms free) := vx_back (bytes := bytes) (maxL := maxL) (ret := ret) hM hp.1 hrc hrs hfr hlo hws hcw (fun a' U hW => word_at hW (Or.inl (by first | rfl | simp [Cond.onTables, Cond.keeps, Cond.steady])) hini)
  obtain ⟨hx, hb, hml, ho, -⟩ := S
  obtain ⟨-, ⟨cellB, hcB, hoB, hclB⟩, hPc⟩ := hp
  obtain ⟨hfc, kB, hkB, -⟩ := hat
  cases hfc.symm.trans hclB
  intro T hT X
  rcases vx_callSU X hx (bytes := bytes) (maxL := maxL) (ret := ret) ho hl1 hl2 hl3 hl4 hcode hno hK (by rw [hT]; exact hcB) hoB hkB hg (hsize.trans hml.symm) (argsL := As) (rest := rest) (fun sig h => hn.trans (hlen sig h)) hstack hW (by rw [hb]; exact hdg)
    (fun vm₁ hW₁ => ⟨hf.1, hf.2, hPc (T.setVm vm₁) hT hW₁⟩) with ⟨v, vm₁, ⟨U', l2, c2, s2⟩, hW₁, X', ⟨g', mk, t, L, e1, e2, hq, h1, hL, h2, h3⟩, st⟩ | ⟨q, vm₁, ⟨U', l2, c2, s2⟩, hW₁, X', ⟨g', mk, t, L, E, ce, e1, e2, hq, hce, hcv, hcl, h1, hL, h2, h3⟩, st⟩
  · dsimp only [Pt.U, Pt.locs, Pt.cells, Pt.slots] at X' e1 e2 h1 h2 h3 st
    subst h1; subst h2; subst h3
    exact Or.inl ⟨v, (T.setVm vm₁).calling g' mk (Value.ref b :: As).toArray, t, U', L, hT, X', hL, e1, e2, hq, st⟩
  · dsimp only [Pt.U, Pt.locs, Pt.cells, Pt.slots] at X' e1 e2 h1 h2 h3 st hcl
    subst h1; subst h2; subst h3
    exact Or.inr ⟨q, (T.setVm vm₁).calling g' mk (Value.ref b :: As).toArray, t, U', L, E, ce, hT, X', hL, e1, e2, hq, hce, hcv, vx_cls hW₁ hcl, st⟩
end
/-! ===== END ===== -/
/-! ===== BEGIN a private method of a nest mate that may throw (follows va_callVN, va_callSN, va_runVN, va_runSN) ===== -/
section
variable {p : Program} {l : Launch} {e : Env} {R : Room} {s : State} {m : MethodId} {args : Array Value} {below : List Frame} {meth : Method} {c : Code} {H : Heap} {locs : List Loc} {cells slots : Nat}
variable {T : State}
theorem vx_callVN (X : Stand p l e R s m args below meth c T locs cells slots) (hexec : p.tables.exec = Jvm.exec) {own C : String} {index : Nat} {host : String} {y : MethodName} {bytes : ByteArray} {maxL : Nat} {ret : Option FieldType}
    (hown : s.vm.findClass own = some m.cls) (hlink : (Cond.methodLinkNest own index y host).before args s = true) (hinst : (Cond.instanceMethod y).before args s = true) (hsel : (Cond.selects C y y).before args s = true)
    (hcode : (Cond.code y bytes maxL ret).before args s = true) (hy : y.cls ≠ "java/lang/invoke/MethodHandle" ∧ y.cls ≠ "java/lang/invoke/VarHandle")
    {W : Nat} {Pre : Pt → Array Value → Prop} {Post : Pt → Array Value → Option Value → Pt → Prop} {PostX : Pt → Array Value → Addr → Pt → Prop} (hK : vx_Back l R p e below s args y 3 W Pre Post PostX)
    {b : Addr} {cellB : Cell} (hcell : T.heap[b]? = some cellB) (hobj : cellB.vm.isStatics = false) (hcls : s.vm.findClass C = some cellB.cls)
    {g : JFrame} (hg : g.method = m) (hsize : g.locals.size = c.maxLocals) {argsL rest : List Value} (hlen : ∀ sig, parseMethodDescriptor y.desc = some sig → argsL.length = sig.parameters.length)
    (hstack : g.stack = argsL.reverse ++ .ref b :: rest) (hW : 2 * g.monitorRoom + (rest.map fun v => v.category).sum ≤ W) (hdg : decode c.code g.pc = .ok (.invokevirtual index, 3))
    (hpre : ∀ vm₁, s.WarmedH vm₁ → Pre ⟨T.setVm vm₁, locs, cells, slots⟩ (Value.ref b :: argsL).toArray) :
    (∃ (v : Option Value) (vm₁ : Vm) (B : Pt), s.WarmedH vm₁ ∧ Stand p l e R s m args below meth c B.U B.locs B.cells B.slots ∧ Post ⟨T.setVm vm₁, locs, cells, slots⟩ (Value.ref b :: argsL).toArray v B ∧
      ∀ target, Steps p.tables e below (B.U.setTop { g with pc := g.pc + 3, stack := v.toList ++ rest }) target → Steps p.tables e below (T.setTop g) target) ∨
    (∃ (q : Addr) (vm₁ : Vm) (B : Pt), s.WarmedH vm₁ ∧ Stand p l e R s m args below meth c B.U B.locs B.cells B.slots ∧ PostX ⟨T.setVm vm₁, locs, cells, slots⟩ (Value.ref b :: argsL).toArray q B ∧
      Steps p.tables e below (T.setTop g) ((B.U.setTop { g with stack := rest }).pushFrame (.throwing q))) := by
  obtain ⟨mk, methM, hnamed, hmethM, hstM, habM⟩ := Cond.instanceMethod_spec hinst
  obtain ⟨methM', cM, hmethM', -, -, -, -, -, -, hsigM⟩ := Cond.code_spec hnamed hcode
  cases hmethM.symm.trans hmethM'
  obtain ⟨c2, r2, m2, q1, q2, q3, q4, kP, hkP, hkPi⟩ := Cond.selects_spec hsel
  cases hcls.symm.trans q1
  cases (State.methodFound?_of_named hnamed hy).symm.trans q2
  cases hnamed.symm.trans q3
  have hselP : selectMethod e.platform s.vm cellB.cls mk = .method mk := by rw [Launch.admits_selectMethod X.admits]; exact q4
  obtain ⟨vm₁, X₁, hstep₁⟩ := X.invokevirtualNest hexec hown hlink hnamed hmethM hstM hkP hkPi hy (a := b) (cell := cellB) hcell
    (fun z h => by rw [h] at hobj; cases hobj) hselP hmethM habM hkP hkPi (g := g) hg (argsL := argsL) (rest := rest) (hlen _ hsigM) hstack hdg
  rcases hK m meth c ⟨T.setVm vm₁, locs, cells, slots⟩ { g with stack := rest } (.invokevirtual index) mk (Value.ref b :: argsL).toArray X₁ hg hsize hdg hW (X₁.named hnamed) (hpre vm₁ X₁.warmed) with ⟨v, B, X', hpost, hsteps⟩ | ⟨q, B, X', hpost, hsteps⟩
  · exact Or.inl ⟨v, vm₁, B, X₁.warmed, X', hpost, fun target h => hstep₁ _ fun acts => by rw [doInvoke_state]; exact hsteps.trans h⟩
  · exact Or.inr ⟨q, vm₁, B, X₁.warmed, X', hpost, hstep₁ _ fun acts => by rw [doInvoke_state]; exact hsteps⟩
theorem vx_callSN (X : Stand p l e R s m args below meth c T locs cells slots) (hexec : p.tables.exec = Jvm.exec) {own : String} {index : Nat} {host : String} {y : MethodName} {bytes : ByteArray} {maxL : Nat} {ret : Option FieldType}
    (hown : s.vm.findClass own = some m.cls) (hlink : (Cond.methodLinkNest own index y host).before args s = true) (hstat : (Cond.static y).before args s = true) (hinit : (Cond.initialized y.cls).before args s = true)
    (hcode : (Cond.code y bytes maxL ret).before args s = true) (hy : y.cls ≠ "java/lang/invoke/MethodHandle" ∧ y.cls ≠ "java/lang/invoke/VarHandle")
    {W : Nat} {Pre : Pt → Array Value → Prop} {Post : Pt → Array Value → Option Value → Pt → Prop} {PostX : Pt → Array Value → Addr → Pt → Prop} (hK : vx_Back l R p e below s args y 3 W Pre Post PostX)
    {g : JFrame} (hg : g.method = m) (hsize : g.locals.size = c.maxLocals) {argsL rest : List Value} (hlen : ∀ sig, parseMethodDescriptor y.desc = some sig → argsL.length = sig.parameters.length)
    (hstack : g.stack = argsL.reverse ++ rest) (hW : 2 * g.monitorRoom + (rest.map fun v => v.category).sum ≤ W) (hdg : decode c.code g.pc = .ok (.invokestatic index, 3))
    (hpre : ∀ vm₁, s.WarmedH vm₁ → Pre ⟨T.setVm vm₁, locs, cells, slots⟩ argsL.toArray) :
    (∃ (v : Option Value) (vm₁ : Vm) (B : Pt), s.WarmedH vm₁ ∧ Stand p l e R s m args below meth c B.U B.locs B.cells B.slots ∧ Post ⟨T.setVm vm₁, locs, cells, slots⟩ argsL.toArray v B ∧
      ∀ target, Steps p.tables e below (B.U.setTop { g with pc := g.pc + 3, stack := v.toList ++ rest }) target → Steps p.tables e below (T.setTop g) target) ∨
    (∃ (q : Addr) (vm₁ : Vm) (B : Pt), s.WarmedH vm₁ ∧ Stand p l e R s m args below meth c B.U B.locs B.cells B.slots ∧ PostX ⟨T.setVm vm₁, locs, cells, slots⟩ argsL.toArray q B ∧
      Steps p.tables e below (T.setTop g) ((B.U.setTop { g with stack := rest }).pushFrame (.throwing q))) := by
  obtain ⟨mk, hnamed⟩ := Cond.code_named hcode
  obtain ⟨methM, cM, hmethM, -, -, -, -, -, -, hsigM⟩ := Cond.code_spec hnamed hcode
  have hstatic : methM.isStatic = true := Cond.static_spec hnamed hmethM hstat
  obtain ⟨kP, hkP, -⟩ := className_of_methodNamed hnamed
  have hinitP : kP.init = .initialized := Cond.initialized_spec (findClass_of_methodNamed hnamed) hkP hinit
  obtain ⟨vm₁, X₁, hstep₁⟩ := X.invokestaticNest hexec hown hlink hnamed hmethM hstatic hkP hinitP hy (g := g) hg (argsL := argsL) (rest := rest) (hlen _ hsigM) hstack hdg
  rcases hK m meth c ⟨T.setVm vm₁, locs, cells, slots⟩ { g with stack := rest } (.invokestatic index) mk argsL.toArray X₁ hg hsize hdg hW (X₁.named hnamed) (hpre vm₁ X₁.warmed) with ⟨v, B, X', hpost, hsteps⟩ | ⟨q, B, X', hpost, hsteps⟩
  · exact Or.inl ⟨v, vm₁, B, X₁.warmed, X', hpost, fun target h => hstep₁ _ fun acts => by rw [doInvoke_state]; exact hsteps.trans h⟩
  · exact Or.inr ⟨q, vm₁, B, X₁.warmed, X', hpost, hstep₁ _ fun acts => by rw [doInvoke_state]; exact hsteps⟩
theorem vx_runVN {y : MethodName} {bytes cc : ByteArray} {maxL nL mc ms n index : Nat} {ret : Option FieldType} {ws : List Cond} {rm : Room} {Pc : Array Value → State → Prop} {Qc : Array Value → State → Outcome → State → Prop} {XC : String → State → State → Prop} {free : Addr → Prop} {Ts : List Cond} {own C host : String} {b : Addr} {As rest : List Value} {g : JFrame}
    (S : CallFix p m c cc nL s args Ts own) (hM : vx_Met l y ws rm Pc Qc XC mc ms free) (cw : va_CN R s args own index y host bytes maxL ret ws rm mc ms n ∧ (Cond.instanceMethod y).before args s = true ∧ (Cond.selects C y y).before args s = true) (hp : PreV s H C b Pc As)
    (hg : g.method = m) (hn : As.length = n) (hsize : g.locals.size = nL) (hstack : g.stack = As.reverse ++ .ref b :: rest) (hW : 2 * g.monitorRoom + (rest.map fun v => v.category).sum ≤ 8) (hdg : decode cc g.pc = .ok (.invokevirtual index, 3)) (hf : cells + mc ≤ R.cells ∧ slots + ms ≤ R.slots) :
    vx_Run p l e R s m args below meth c H locs cells slots mc ms g rest (Qc (Value.ref b :: As).toArray) XC free := by
  obtain ⟨⟨⟨hrc, hrs, hfr, hlo, hws, hcw⟩, hcode, hini, hy, hlen, hl⟩, hx1, hx2⟩ := cw
  have hK : vx_Back l R p e below s args y 3 8 (PreOf R mc ms Pc) (PostOf Qc mc ms free) (vx_Post XC mc ms free) := vx_back (bytes := bytes) (maxL := maxL) (ret := ret) hM hp.1 hrc hrs hfr hlo hws hcw (fun a' U hW => word_at hW (Or.inl (by first | rfl | simp [Cond.onTables, Cond.keeps, Cond.steady])) hini)
  obtain ⟨hx, hb, hml, ho, -⟩ := S
  obtain ⟨-, ⟨cellB, hcB, hoB, hclB⟩, hPc⟩ := hp
  intro T hT X
  rcases vx_callVN X hx (C := C) (bytes := bytes) (maxL := maxL) (ret := ret) ho hl hx1 hx2 hcode hy hK (by rw [hT]; exact hcB) hoB hclB hg (hsize.trans hml.symm) (argsL := As) (rest := rest) (fun sig h => hn.trans (hlen sig h)) hstack hW (by rw [hb]; exact hdg)
    (fun vm₁ hW₁ => ⟨hf.1, hf.2, hPc (T.setVm vm₁) hT hW₁⟩) with ⟨v, vm₁, ⟨U', l2, c2, s2⟩, hW₁, X', ⟨g', mk, t, L, e1, e2, hq, h1, hL, h2, h3⟩, st⟩ | ⟨q, vm₁, ⟨U', l2, c2, s2⟩, hW₁, X', ⟨g', mk, t, L, E, ce, e1, e2, hq, hce, hcv, hcl, h1, hL, h2, h3⟩, st⟩
  · dsimp only [Pt.U, Pt.locs, Pt.cells, Pt.slots] at X' e1 e2 h1 h2 h3 st
    subst h1; subst h2; subst h3
    exact Or.inl ⟨v, (T.setVm vm₁).calling g' mk (Value.ref b :: As).toArray, t, U', L, hT, X', hL, e1, e2, hq, st⟩
  · dsimp only [Pt.U, Pt.locs, Pt.cells, Pt.slots] at X' e1 e2 h1 h2 h3 st hcl
    subst h1; subst h2; subst h3
    exact Or.inr ⟨q, (T.setVm vm₁).calling g' mk (Value.ref b :: As).toArray, t, U', L, E, ce, hT, X', hL, e1, e2, hq, hce, hcv, vx_cls hW₁ hcl, st⟩
theorem vx_runSN {y : MethodName} {bytes cc : ByteArray} {maxL nL mc ms n index : Nat} {ret : Option FieldType} {ws : List Cond} {rm : Room} {Pc : Array Value → State → Prop} {Qc : Array Value → State → Outcome → State → Prop} {XC : String → State → State → Prop} {free : Addr → Prop} {Ts : List Cond} {own host : String} {As rest : List Value} {g : JFrame}
    (S : CallFix p m c cc nL s args Ts own) (hM : vx_Met l y ws rm Pc Qc XC mc ms free) (cw : va_CN R s args own index y host bytes maxL ret ws rm mc ms n ∧ (Cond.static y).before args s = true ∧ True) (hp : PreS s H Pc As)
    (hg : g.method = m) (hn : As.length = n) (hsize : g.locals.size = nL) (hstack : g.stack = As.reverse ++ rest) (hW : 2 * g.monitorRoom + (rest.map fun v => v.category).sum ≤ 8) (hdg : decode cc g.pc = .ok (.invokestatic index, 3)) (hf : cells + mc ≤ R.cells ∧ slots + ms ≤ R.slots) :
    vx_Run p l e R s m args below meth c H locs cells slots mc ms g rest (Qc As.toArray) XC free := by
  obtain ⟨⟨⟨hrc, hrs, hfr, hlo, hws, hcw⟩, hcode, hini, hy, hlen, hl⟩, hx1, hx2⟩ := cw
  have hK : vx_Back l R p e below s args y 3 8 (PreOf R mc ms Pc) (PostOf Qc mc ms free) (vx_Post XC mc ms free) := vx_back (bytes := bytes) (maxL := maxL) (ret := ret) hM hp.1 hrc hrs hfr hlo hws hcw (fun a' U hW => word_at hW (Or.inl (by first | rfl | simp [Cond.onTables, Cond.keeps, Cond.steady])) hini)
  obtain ⟨hx, hb, hml, ho, -⟩ := S
  have hPc := hp.2
  intro T hT X
  rcases vx_callSN X hx (bytes := bytes) (maxL := maxL) (ret := ret) ho hl hx1 hini hcode hy hK hg (hsize.trans hml.symm) (argsL := As) (rest := rest) (fun sig h => hn.trans (hlen sig h)) hstack hW (by rw [hb]; exact hdg)
    (fun vm₁ hW₁ => ⟨hf.1, hf.2, hPc (T.setVm vm₁) hT hW₁⟩) with ⟨v, vm₁, ⟨U', l2, c2, s2⟩, hW₁, X', ⟨g', mk, t, L, e1, e2, hq, h1, hL, h2, h3⟩, st⟩ | ⟨q, vm₁, ⟨U', l2, c2, s2⟩, hW₁, X', ⟨g', mk, t, L, E, ce, e1, e2, hq, hce, hcv, hcl, h1, hL, h2, h3⟩, st⟩
  · dsimp only [Pt.U, Pt.locs, Pt.cells, Pt.slots] at X' e1 e2 h1 h2 h3 st
    subst h1; subst h2; subst h3
    exact Or.inl ⟨v, (T.setVm vm₁).calling g' mk As.toArray, t, U', L, hT, X', hL, e1, e2, hq, st⟩
  · dsimp only [Pt.U, Pt.locs, Pt.cells, Pt.slots] at X' e1 e2 h1 h2 h3 st hcl
    subst h1; subst h2; subst h3
    exact Or.inr ⟨q, (T.setVm vm₁).calling g' mk As.toArray, t, U', L, E, ce, hT, X', hL, e1, e2, hq, hce, hcv, vx_cls hW₁ hcl, st⟩
end
/-! ===== END ===== -/
/-! ===== BEGIN calls by an interface of methods that may throw (vx_callIF, vx_runF follow va_callIF, va_runF of this kit) ===== -/
section
variable {p : Program} {l : Launch} {e : Env} {R : Room} {s : State} {m : MethodId} {args : Array Value} {below : List Frame} {meth : Method} {c : Code} {H : Heap} {locs : List Loc} {cells slots : Nat} {Q : State → Prop}
variable {mc ms : Nat} {free : Addr → Prop} {A0 A1 : Nat → Prop} {H0 : Heap} {a : Array Value} {pc : Nat} {ls : Array Slot} {st0 rest : List Value}
def vx_Run5 (p : Program) (l : Launch) (e : Env) (R : Room) (s : State) (m : MethodId) (args : Array Value) (below : List Frame) (meth : Method) (c : Code) (H : Heap) (locs : List Loc) (cells slots mc ms : Nat) (g : JFrame) (rest : List Value) (Qa : State → Outcome → State → Prop) (XC : String → State → State → Prop) (free : Addr → Prop) : Prop :=
  ∀ T : State, T.heap = H → Stand p l e R s m args below meth c T locs cells slots →
    (∃ (v : Option Value) (st₀ t T' : State) (L : List Loc), st₀.heap = H ∧ Stand p l e R s m args below meth c T' (locs ++ L) (cells + mc) (slots + ms) ∧ (∀ q ∈ L, free q.base) ∧ T'.heap = t.heap ∧ T'.vm = t.vm ∧ Qa st₀ (.returned v) t ∧
      Goes p e below T g T' { g with pc := g.pc + 5, stack := v.toList ++ rest }) ∨
    (∃ (q : Addr) (st₀ t T' : State) (L : List Loc) (E : String) (ce : Cell), st₀.heap = H ∧ Stand p l e R s m args below meth c T' (locs ++ L) (cells + mc) (slots + ms) ∧ (∀ z ∈ L, free z.base) ∧ T'.heap = t.heap ∧ T'.vm = t.vm ∧ XC E st₀ t ∧ t.heap[q]? = some ce ∧ ce.vm = .none ∧ s.vm.findClass E = some ce.cls ∧
      Steps p.tables e below (T.setTop g) ((T'.setTop { g with stack := rest }).pushFrame (.throwing q)))
theorem vx_callIF {T : State} (X : Stand p l e R s m args below meth c T locs cells slots) (hexec : p.tables.exec = Jvm.exec) {own C : String} {index count : Nat} {x y : MethodName} {bytes : ByteArray} {maxL : Nat} {ret : Option FieldType}
    (hown : s.vm.findClass own = some m.cls) (hlink : (Cond.methodLink own index x).before args s = true) (hdecl : (Cond.declares x).before args s = true) (hface : (Cond.interfaceMethod x.cls x.cls x.name x.desc).before args s = true)
    (hsel : (Cond.selects C x y).before args s = true) (hinst : (Cond.instanceMethod y).before args s = true) (hpub : (Cond.publicMethod y).before args s = true) (hunh : (Cond.unhidden C x.name x.desc).before args s = true)
    (hcast : (Cond.castable C x.cls).before args s = true) (hcode : (Cond.code y bytes maxL ret).before args s = true) (hx : x.cls ≠ "java/lang/invoke/MethodHandle" ∧ x.cls ≠ "java/lang/invoke/VarHandle")
    {W9 : Nat} {Pre : Pt → Array Value → Prop} {Post : Pt → Array Value → Option Value → Pt → Prop} {PostX : Pt → Array Value → Addr → Pt → Prop} (hK : vx_Back l R p e below s args y 5 W9 Pre Post PostX)
    {b : Addr} {cellB : Cell} {kB : Class} (hcell : T.heap[b]? = some cellB) (hobj : cellB.vm.isStatics = false) (hcls : s.vm.findClass C = some cellB.cls) (hkB : s.vm.classes[cellB.cls]? = some kB)
    {g : JFrame} (hg : g.method = m) (hsize : g.locals.size = c.maxLocals) {argsL rest : List Value} (hlen : ∀ sig, parseMethodDescriptor x.desc = some sig → argsL.length = sig.parameters.length)
    (hstack : g.stack = argsL.reverse ++ .ref b :: rest) (hW : 2 * g.monitorRoom + (rest.map fun v => v.category).sum ≤ W9) (hdg : decode c.code g.pc = .ok (.invokeinterface index count, 5))
    (hpre : ∀ vm₁, s.WarmedH vm₁ → Pre ⟨T.setVm vm₁, locs, cells, slots⟩ (Value.ref b :: argsL).toArray) :
    (∃ (v : Option Value) (vm₁ : Vm) (B : Pt), s.WarmedH vm₁ ∧ Stand p l e R s m args below meth c B.U B.locs B.cells B.slots ∧ Post ⟨T.setVm vm₁, locs, cells, slots⟩ (Value.ref b :: argsL).toArray v B ∧
      ∀ target, Steps p.tables e below (B.U.setTop { g with pc := g.pc + 5, stack := v.toList ++ rest }) target → Steps p.tables e below (T.setTop g) target) ∨
    (∃ (q : Addr) (vm₁ : Vm) (B : Pt), s.WarmedH vm₁ ∧ Stand p l e R s m args below meth c B.U B.locs B.cells B.slots ∧ PostX ⟨T.setVm vm₁, locs, cells, slots⟩ (Value.ref b :: argsL).toArray q B ∧
      Steps p.tables e below (T.setTop g) ((B.U.setTop { g with stack := rest }).pushFrame (.throwing q))) := by
  obtain ⟨r0, r, hn, hrm, hstR, hsigR⟩ := Cond.declares_spec hdecl
  obtain ⟨cL, kL, r1, hcL, hkL, hiL, hfoundL, hn1⟩ := Cond.interfaceMethod_spec hface
  cases hn.symm.trans hn1
  have hr0cls : r0.cls = cL := Option.some.inj ((findClass_of_methodNamed hn).symm.trans hcL)
  obtain ⟨hnameR, hdescR⟩ := name_of_methodNamed hn hrm
  obtain ⟨mk, methM, hnamed, hmethM, -, habM⟩ := Cond.instanceMethod_spec hinst
  obtain ⟨c2, r2, m2, q1, q2, q3, q4, -⟩ := Cond.selects_spec hsel
  cases hcls.symm.trans q1
  cases hfoundL.symm.trans q2
  cases hnamed.symm.trans q3
  have hselP : selectMethod e.platform s.vm cellB.cls r0 = .method mk := by rw [Launch.admits_selectMethod X.admits]; exact q4
  have hpubM : hasFlag methM.accessFlags Acc.public_ = true := Cond.publicMethod_spec hnamed hmethM hpub
  have hway : ((cellB.cls :: s.vm.superclasses cellB.cls).any fun k => (declaredIn s.vm r.name r.desc k).any fun (_, z) => z.isPrivate || z.isStatic) = false := by
    rw [hnameR, hdescR]; exact Cond.unhidden_spec hcls hunh
  obtain ⟨c3, t3, w1, w2, w3⟩ := Cond.castable_spec hcast
  cases hcls.symm.trans w1
  cases hcL.symm.trans w2
  obtain ⟨vm₁, X₁, hstep₁⟩ := X.invokeinterface hexec hown hlink hn hrm hstR (by rw [hr0cls]; exact hkL) hiL hx (a := b) (cell := cellB) (kcell := kB) hcell
    (fun z h => by rw [h] at hobj; cases hobj) hkB (by rw [hr0cls]; exact w3) hselP hmethM hway hpubM habM (g := g) hg (argsL := argsL) (rest := rest) (hlen _ hsigR) hstack hdg
  rcases hK m meth c ⟨T.setVm vm₁, locs, cells, slots⟩ { g with stack := rest } (.invokeinterface index count) mk (Value.ref b :: argsL).toArray X₁ hg hsize hdg hW (X₁.named hnamed) (hpre vm₁ X₁.warmed) with ⟨v, B, X', hpost, hsteps⟩ | ⟨q, B, X', hpost, hsteps⟩
  · exact Or.inl ⟨v, vm₁, B, X₁.warmed, X', hpost, fun target h => hstep₁ _ fun acts => by rw [doInvoke_state]; exact hsteps.trans h⟩
  · exact Or.inr ⟨q, vm₁, B, X₁.warmed, X', hpost, hstep₁ _ fun acts => by rw [doInvoke_state]; exact hsteps⟩
theorem vx_runF {x y : MethodName} {bytes cc : ByteArray} {maxL nL mc ms n index count : Nat} {ret : Option FieldType} {ws : List Cond} {rm : Room} {Pc : Array Value → State → Prop} {Qc : Array Value → State → Outcome → State → Prop} {XC : String → State → State → Prop} {free : Addr → Prop} {Ts : List Cond} {own C : String} {cC : ClassId} {b : Addr} {As rest : List Value} {g : JFrame}
    (hat : ClassAt s C cC) (S : CallFix p m c cc nL s args Ts own) (hM : vx_Met l y ws rm Pc Qc XC mc ms free) (cw : va_CI R s args own C index x y bytes maxL ret ws rm mc ms n) (hp : PreV s H C b Pc As)
    (hg : g.method = m) (hn : As.length = n) (hsize : g.locals.size = nL) (hstack : g.stack = As.reverse ++ .ref b :: rest) (hW : 2 * g.monitorRoom + (rest.map fun v => v.category).sum ≤ 8) (hdg : decode cc g.pc = .ok (.invokeinterface index count, 5)) (hf : cells + mc ≤ R.cells ∧ slots + ms ≤ R.slots) :
    vx_Run5 p l e R s m args below meth c H locs cells slots mc ms g rest (Qc (Value.ref b :: As).toArray) XC free := by
  obtain ⟨hrc, hrs, hfr, hlo, hws, hcw⟩ := cw.back
  have hini := cw.init
  have hK : vx_Back l R p e below s args y 5 8 (PreOf R mc ms Pc) (PostOf Qc mc ms free) (vx_Post XC mc ms free) := vx_back (bytes := bytes) (maxL := maxL) (ret := ret) hM hp.1 hrc hrs hfr hlo hws hcw (fun a' U hW => word_at hW (Or.inl (by first | rfl | simp [Cond.onTables, Cond.keeps, Cond.steady])) hini)
  obtain ⟨hx, hb, hml, ho, -⟩ := S
  obtain ⟨-, ⟨cellB, hcB, hoB, hclB⟩, hPc⟩ := hp
  obtain ⟨hfc, kB, hkB, -⟩ := hat
  cases hfc.symm.trans hclB
  intro T hT X
  rcases vx_callIF X hx (C := C) (bytes := bytes) (maxL := maxL) (ret := ret) ho cw.link cw.decl cw.face cw.sel cw.inst cw.pub cw.unh cw.cast cw.code cw.notMH hK (by rw [hT]; exact hcB) hoB hclB hkB hg (hsize.trans hml.symm) (argsL := As) (rest := rest) (fun sig h => hn.trans (cw.len sig h)) hstack hW (by rw [hb]; exact hdg)
    (fun vm₁ hW₁ => ⟨hf.1, hf.2, hPc (T.setVm vm₁) hT hW₁⟩) with ⟨v, vm₁, ⟨U', l2, c2, s2⟩, hW₁, X', ⟨g', mk, t, L, e1, e2, hq, h1, hL, h2, h3⟩, st⟩ | ⟨q, vm₁, ⟨U', l2, c2, s2⟩, hW₁, X', ⟨g', mk, t, L, E, ce, e1, e2, hq, hce, hcv, hcl, h1, hL, h2, h3⟩, st⟩
  · dsimp only [Pt.U, Pt.locs, Pt.cells, Pt.slots] at X' e1 e2 h1 h2 h3 st
    subst h1; subst h2; subst h3
    exact Or.inl ⟨v, (T.setVm vm₁).calling g' mk (Value.ref b :: As).toArray, t, U', L, hT, X', hL, e1, e2, hq, st⟩
  · dsimp only [Pt.U, Pt.locs, Pt.cells, Pt.slots] at X' e1 e2 h1 h2 h3 st hcl
    subst h1; subst h2; subst h3
    exact Or.inr ⟨q, (T.setVm vm₁).calling g' mk (Value.ref b :: As).toArray, t, U', L, E, ce, hT, X', hL, e1, e2, hq, hce, hcv, vx_cls hW₁ hcl, st⟩
theorem vx_callFv {S SX : Type} {post : S → Prop} {px : SX → Prop} {B : S → State → Prop} {BX : String → SX → State → Prop} {AX : Nat → Prop} (hr : vx_Run5 p l e R s m args below meth c H locs cells slots mc ms (F0 m pc ls st0) rest (va_Qv post B A1 a) (vx_X px BX AX) free) (hS : va_S A0 H0 H locs) (hA : ∀ q, q < H.size → A1 q → A0 q) (hf : ∀ q, free q → A0 q) (hAX : ∀ q, q < H.size → AX q → A0 q)
    (kx : ∀ (E : String) (ce : Cell) (q9 : Addr) (u : SX) (t : State) (H1 : Heap) (locs1 : List Loc), t.heap = H1 → s.vm.Alike t.vm → px u → BX E u t → H.size ≤ H1.size → (∀ q : Nat, q < H.size → ¬ AX q → H1[q]? = H[q]?) → va_S A0 H0 H1 locs1 → H1[q9]? = some ce → ce.vm = .none → s.vm.findClass E = some ce.cls → vx_W p l e R s m args below meth c H1 locs1 (cells + mc) (slots + ms) Q (F0 m pc ls rest) q9)
    (kk : ∀ (u : S) (t : State) (H1 : Heap) (locs1 : List Loc), t.heap = H1 → s.vm.Alike t.vm → post u → B u t → H.size ≤ H1.size → (∀ q : Nat, q < H.size → ¬ A1 q → H1[q]? = H[q]?) → va_S A0 H0 H1 locs1 → W p l e R s m args below meth c H1 locs1 (cells + mc) (slots + ms) Q (F0 m (pc + 5) ls (rest))) : W p l e R s m args below meth c H locs cells slots Q (F0 m pc ls st0) := by
  intro T hT X
  rcases hr T hT X with ⟨v, st₀, t, T', L, h0, X', hL, e1, e2, ⟨⟨u, hv, hp, hb⟩, hF⟩, st⟩ | ⟨q, st₀, t, T', L, E, ce, h0, X', hL, e1, e2, ⟨u, hp, hb, hF⟩, hce, hcv, hcl, st⟩
  · cases hv
    obtain ⟨k1, k2, k3⟩ := vx_keep h0 e1 hS hA hf hL hF
    obtain ⟨t2, a1, b1⟩ := kk u t T'.heap (locs ++ L) e1.symm (by rw [← e2]; exact X'.warmed.alike) hp hb k1 k2 k3 T' rfl X'
    exact ⟨t2, st t2 a1, b1⟩
  · obtain ⟨k1, k2, k3⟩ := vx_keep h0 e1 hS hAX hf hL hF
    obtain ⟨t2, a1, b1⟩ := kx E ce q u t T'.heap (locs ++ L) e1.symm (by rw [← e2]; exact X'.warmed.alike) hp hb k1 k2 k3 (by rw [e1]; exact hce) hcv hcl T' rfl X'
    exact ⟨t2, st.trans a1, b1⟩
theorem vx_callFi {S SX : Type} {post : Int32 → S → Prop} {px : SX → Prop} {B : S → State → Prop} {BX : String → SX → State → Prop} {AX : Nat → Prop} (hr : vx_Run5 p l e R s m args below meth c H locs cells slots mc ms (F0 m pc ls st0) rest (va_Qi post B A1 a) (vx_X px BX AX) free) (hS : va_S A0 H0 H locs) (hA : ∀ q, q < H.size → A1 q → A0 q) (hf : ∀ q, free q → A0 q) (hAX : ∀ q, q < H.size → AX q → A0 q)
    (kx : ∀ (E : String) (ce : Cell) (q9 : Addr) (u : SX) (t : State) (H1 : Heap) (locs1 : List Loc), t.heap = H1 → s.vm.Alike t.vm → px u → BX E u t → H.size ≤ H1.size → (∀ q : Nat, q < H.size → ¬ AX q → H1[q]? = H[q]?) → va_S A0 H0 H1 locs1 → H1[q9]? = some ce → ce.vm = .none → s.vm.findClass E = some ce.cls → vx_W p l e R s m args below meth c H1 locs1 (cells + mc) (slots + ms) Q (F0 m pc ls rest) q9)
    (kk : ∀ (r : Int32) (u : S) (t : State) (H1 : Heap) (locs1 : List Loc), t.heap = H1 → s.vm.Alike t.vm → post r u → B u t → H.size ≤ H1.size → (∀ q : Nat, q < H.size → ¬ A1 q → H1[q]? = H[q]?) → va_S A0 H0 H1 locs1 → W p l e R s m args below meth c H1 locs1 (cells + mc) (slots + ms) Q (F0 m (pc + 5) ls (.int r :: rest))) : W p l e R s m args below meth c H locs cells slots Q (F0 m pc ls st0) := by
  intro T hT X
  rcases hr T hT X with ⟨v, st₀, t, T', L, h0, X', hL, e1, e2, ⟨⟨r, u, hv, hp, hb⟩, hF⟩, st⟩ | ⟨q, st₀, t, T', L, E, ce, h0, X', hL, e1, e2, ⟨u, hp, hb, hF⟩, hce, hcv, hcl, st⟩
  · cases hv
    obtain ⟨k1, k2, k3⟩ := vx_keep h0 e1 hS hA hf hL hF
    obtain ⟨t2, a1, b1⟩ := kk r u t T'.heap (locs ++ L) e1.symm (by rw [← e2]; exact X'.warmed.alike) hp hb k1 k2 k3 T' rfl X'
    exact ⟨t2, st t2 a1, b1⟩
  · obtain ⟨k1, k2, k3⟩ := vx_keep h0 e1 hS hAX hf hL hF
    obtain ⟨t2, a1, b1⟩ := kx E ce q u t T'.heap (locs ++ L) e1.symm (by rw [← e2]; exact X'.warmed.alike) hp hb k1 k2 k3 (by rw [e1]; exact hce) hcv hcl T' rfl X'
    exact ⟨t2, st.trans a1, b1⟩
theorem vx_callFl {S SX : Type} {post : Int64 → S → Prop} {px : SX → Prop} {B : S → State → Prop} {BX : String → SX → State → Prop} {AX : Nat → Prop} (hr : vx_Run5 p l e R s m args below meth c H locs cells slots mc ms (F0 m pc ls st0) rest (va_Ql post B A1 a) (vx_X px BX AX) free) (hS : va_S A0 H0 H locs) (hA : ∀ q, q < H.size → A1 q → A0 q) (hf : ∀ q, free q → A0 q) (hAX : ∀ q, q < H.size → AX q → A0 q)
    (kx : ∀ (E : String) (ce : Cell) (q9 : Addr) (u : SX) (t : State) (H1 : Heap) (locs1 : List Loc), t.heap = H1 → s.vm.Alike t.vm → px u → BX E u t → H.size ≤ H1.size → (∀ q : Nat, q < H.size → ¬ AX q → H1[q]? = H[q]?) → va_S A0 H0 H1 locs1 → H1[q9]? = some ce → ce.vm = .none → s.vm.findClass E = some ce.cls → vx_W p l e R s m args below meth c H1 locs1 (cells + mc) (slots + ms) Q (F0 m pc ls rest) q9)
    (kk : ∀ (r : Int64) (u : S) (t : State) (H1 : Heap) (locs1 : List Loc), t.heap = H1 → s.vm.Alike t.vm → post r u → B u t → H.size ≤ H1.size → (∀ q : Nat, q < H.size → ¬ A1 q → H1[q]? = H[q]?) → va_S A0 H0 H1 locs1 → W p l e R s m args below meth c H1 locs1 (cells + mc) (slots + ms) Q (F0 m (pc + 5) ls (.long r :: rest))) : W p l e R s m args below meth c H locs cells slots Q (F0 m pc ls st0) := by
  intro T hT X
  rcases hr T hT X with ⟨v, st₀, t, T', L, h0, X', hL, e1, e2, ⟨⟨r, u, hv, hp, hb⟩, hF⟩, st⟩ | ⟨q, st₀, t, T', L, E, ce, h0, X', hL, e1, e2, ⟨u, hp, hb, hF⟩, hce, hcv, hcl, st⟩
  · cases hv
    obtain ⟨k1, k2, k3⟩ := vx_keep h0 e1 hS hA hf hL hF
    obtain ⟨t2, a1, b1⟩ := kk r u t T'.heap (locs ++ L) e1.symm (by rw [← e2]; exact X'.warmed.alike) hp hb k1 k2 k3 T' rfl X'
    exact ⟨t2, st t2 a1, b1⟩
  · obtain ⟨k1, k2, k3⟩ := vx_keep h0 e1 hS hAX hf hL hF
    obtain ⟨t2, a1, b1⟩ := kx E ce q u t T'.heap (locs ++ L) e1.symm (by rw [← e2]; exact X'.warmed.alike) hp hb k1 k2 k3 (by rw [e1]; exact hce) hcv hcl T' rfl X'
    exact ⟨t2, st.trans a1, b1⟩
theorem vx_callFf {S SX : Type} {post : UInt32 → S → Prop} {px : SX → Prop} {B : S → State → Prop} {BX : String → SX → State → Prop} {AX : Nat → Prop} (hr : vx_Run5 p l e R s m args below meth c H locs cells slots mc ms (F0 m pc ls st0) rest (va_Qf post B A1 a) (vx_X px BX AX) free) (hS : va_S A0 H0 H locs) (hA : ∀ q, q < H.size → A1 q → A0 q) (hf : ∀ q, free q → A0 q) (hAX : ∀ q, q < H.size → AX q → A0 q)
    (kx : ∀ (E : String) (ce : Cell) (q9 : Addr) (u : SX) (t : State) (H1 : Heap) (locs1 : List Loc), t.heap = H1 → s.vm.Alike t.vm → px u → BX E u t → H.size ≤ H1.size → (∀ q : Nat, q < H.size → ¬ AX q → H1[q]? = H[q]?) → va_S A0 H0 H1 locs1 → H1[q9]? = some ce → ce.vm = .none → s.vm.findClass E = some ce.cls → vx_W p l e R s m args below meth c H1 locs1 (cells + mc) (slots + ms) Q (F0 m pc ls rest) q9)
    (kk : ∀ (r : UInt32) (u : S) (t : State) (H1 : Heap) (locs1 : List Loc), t.heap = H1 → s.vm.Alike t.vm → post r u → B u t → H.size ≤ H1.size → (∀ q : Nat, q < H.size → ¬ A1 q → H1[q]? = H[q]?) → va_S A0 H0 H1 locs1 → W p l e R s m args below meth c H1 locs1 (cells + mc) (slots + ms) Q (F0 m (pc + 5) ls (.float r :: rest))) : W p l e R s m args below meth c H locs cells slots Q (F0 m pc ls st0) := by
  intro T hT X
  rcases hr T hT X with ⟨v, st₀, t, T', L, h0, X', hL, e1, e2, ⟨⟨r, u, hv, hp, hb⟩, hF⟩, st⟩ | ⟨q, st₀, t, T', L, E, ce, h0, X', hL, e1, e2, ⟨u, hp, hb, hF⟩, hce, hcv, hcl, st⟩
  · cases hv
    obtain ⟨k1, k2, k3⟩ := vx_keep h0 e1 hS hA hf hL hF
    obtain ⟨t2, a1, b1⟩ := kk r u t T'.heap (locs ++ L) e1.symm (by rw [← e2]; exact X'.warmed.alike) hp hb k1 k2 k3 T' rfl X'
    exact ⟨t2, st t2 a1, b1⟩
  · obtain ⟨k1, k2, k3⟩ := vx_keep h0 e1 hS hAX hf hL hF
    obtain ⟨t2, a1, b1⟩ := kx E ce q u t T'.heap (locs ++ L) e1.symm (by rw [← e2]; exact X'.warmed.alike) hp hb k1 k2 k3 (by rw [e1]; exact hce) hcv hcl T' rfl X'
    exact ⟨t2, st.trans a1, b1⟩
theorem vx_callFd {S SX : Type} {post : UInt64 → S → Prop} {px : SX → Prop} {B : S → State → Prop} {BX : String → SX → State → Prop} {AX : Nat → Prop} (hr : vx_Run5 p l e R s m args below meth c H locs cells slots mc ms (F0 m pc ls st0) rest (va_Qd post B A1 a) (vx_X px BX AX) free) (hS : va_S A0 H0 H locs) (hA : ∀ q, q < H.size → A1 q → A0 q) (hf : ∀ q, free q → A0 q) (hAX : ∀ q, q < H.size → AX q → A0 q)
    (kx : ∀ (E : String) (ce : Cell) (q9 : Addr) (u : SX) (t : State) (H1 : Heap) (locs1 : List Loc), t.heap = H1 → s.vm.Alike t.vm → px u → BX E u t → H.size ≤ H1.size → (∀ q : Nat, q < H.size → ¬ AX q → H1[q]? = H[q]?) → va_S A0 H0 H1 locs1 → H1[q9]? = some ce → ce.vm = .none → s.vm.findClass E = some ce.cls → vx_W p l e R s m args below meth c H1 locs1 (cells + mc) (slots + ms) Q (F0 m pc ls rest) q9)
    (kk : ∀ (r : UInt64) (u : S) (t : State) (H1 : Heap) (locs1 : List Loc), t.heap = H1 → s.vm.Alike t.vm → post r u → B u t → H.size ≤ H1.size → (∀ q : Nat, q < H.size → ¬ A1 q → H1[q]? = H[q]?) → va_S A0 H0 H1 locs1 → W p l e R s m args below meth c H1 locs1 (cells + mc) (slots + ms) Q (F0 m (pc + 5) ls (.double r :: rest))) : W p l e R s m args below meth c H locs cells slots Q (F0 m pc ls st0) := by
  intro T hT X
  rcases hr T hT X with ⟨v, st₀, t, T', L, h0, X', hL, e1, e2, ⟨⟨r, u, hv, hp, hb⟩, hF⟩, st⟩ | ⟨q, st₀, t, T', L, E, ce, h0, X', hL, e1, e2, ⟨u, hp, hb, hF⟩, hce, hcv, hcl, st⟩
  · cases hv
    obtain ⟨k1, k2, k3⟩ := vx_keep h0 e1 hS hA hf hL hF
    obtain ⟨t2, a1, b1⟩ := kk r u t T'.heap (locs ++ L) e1.symm (by rw [← e2]; exact X'.warmed.alike) hp hb k1 k2 k3 T' rfl X'
    exact ⟨t2, st t2 a1, b1⟩
  · obtain ⟨k1, k2, k3⟩ := vx_keep h0 e1 hS hAX hf hL hF
    obtain ⟨t2, a1, b1⟩ := kx E ce q u t T'.heap (locs ++ L) e1.symm (by rw [← e2]; exact X'.warmed.alike) hp hb k1 k2 k3 (by rw [e1]; exact hce) hcv hcl T' rfl X'
    exact ⟨t2, st.trans a1, b1⟩
end
/-! ===== END ===== -/
/-! ===== BEGIN by an interface, a method with a table of its own that may throw (follows va_callIFW, va_runFW) ===== -/
section
variable {p : Program} {l : Launch} {e : Env} {R : Room} {s : State} {m : MethodId} {args : Array Value} {below : List Frame} {meth : Method} {c : Code} {H : Heap} {locs : List Loc} {cells slots : Nat}
theorem vx_callIFW {T : State} (X : Stand p l e R s m args below meth c T locs cells slots) (hexec : p.tables.exec = Jvm.exec) {own C : String} {index count : Nat} {x y : MethodName} {bytes : ByteArray} {maxL : Nat} {ret : Option FieldType} {hh : List (Nat × Nat × Nat × Nat)}
    (hown : s.vm.findClass own = some m.cls) (hlink : (Cond.methodLink own index x).before args s = true) (hdecl : (Cond.declares x).before args s = true) (hface : (Cond.interfaceMethod x.cls x.cls x.name x.desc).before args s = true)
    (hsel : (Cond.selects C x y).before args s = true) (hinst : (Cond.instanceMethod y).before args s = true) (hpub : (Cond.publicMethod y).before args s = true) (hunh : (Cond.unhidden C x.name x.desc).before args s = true)
    (hcast : (Cond.castable C x.cls).before args s = true) (hcode : (Cond.codeWith y bytes maxL ret hh).before args s = true) (hx : x.cls ≠ "java/lang/invoke/MethodHandle" ∧ x.cls ≠ "java/lang/invoke/VarHandle")
    {W : Nat} {Pre : Pt → Array Value → Prop} {Post : Pt → Array Value → Option Value → Pt → Prop} {PostX : Pt → Array Value → Addr → Pt → Prop} (hK : vx_Back l R p e below s args y 5 W Pre Post PostX)
    {b : Addr} {cellB : Cell} {kB : Class} (hcell : T.heap[b]? = some cellB) (hobj : cellB.vm.isStatics = false) (hcls : s.vm.findClass C = some cellB.cls) (hkB : s.vm.classes[cellB.cls]? = some kB)
    {g : JFrame} (hg : g.method = m) (hsize : g.locals.size = c.maxLocals) {argsL rest : List Value} (hlen : ∀ sig, parseMethodDescriptor x.desc = some sig → argsL.length = sig.parameters.length)
    (hstack : g.stack = argsL.reverse ++ .ref b :: rest) (hW : 2 * g.monitorRoom + (rest.map fun v => v.category).sum ≤ W) (hdg : decode c.code g.pc = .ok (.invokeinterface index count, 5))
    (hpre : ∀ vm₁, s.WarmedH vm₁ → Pre ⟨T.setVm vm₁, locs, cells, slots⟩ (Value.ref b :: argsL).toArray) :
    (∃ (v : Option Value) (vm₁ : Vm) (B : Pt), s.WarmedH vm₁ ∧ Stand p l e R s m args below meth c B.U B.locs B.cells B.slots ∧ Post ⟨T.setVm vm₁, locs, cells, slots⟩ (Value.ref b :: argsL).toArray v B ∧
      ∀ target, Steps p.tables e below (B.U.setTop { g with pc := g.pc + 5, stack := v.toList ++ rest }) target → Steps p.tables e below (T.setTop g) target) ∨
    (∃ (q : Addr) (vm₁ : Vm) (B : Pt), s.WarmedH vm₁ ∧ Stand p l e R s m args below meth c B.U B.locs B.cells B.slots ∧ PostX ⟨T.setVm vm₁, locs, cells, slots⟩ (Value.ref b :: argsL).toArray q B ∧
      Steps p.tables e below (T.setTop g) ((B.U.setTop { g with stack := rest }).pushFrame (.throwing q))) := by
  obtain ⟨r0, r, hn, hrm, hstR, hsigR⟩ := Cond.declares_spec hdecl
  obtain ⟨cL, kL, r1, hcL, hkL, hiL, hfoundL, hn1⟩ := Cond.interfaceMethod_spec hface
  cases hn.symm.trans hn1
  have hr0cls : r0.cls = cL := Option.some.inj ((findClass_of_methodNamed hn).symm.trans hcL)
  obtain ⟨hnameR, hdescR⟩ := name_of_methodNamed hn hrm
  obtain ⟨mk, methM, hnamed, hmethM, -, habM⟩ := Cond.instanceMethod_spec hinst
  obtain ⟨c2, r2, m2, q1, q2, q3, q4, -⟩ := Cond.selects_spec hsel
  cases hcls.symm.trans q1
  cases hfoundL.symm.trans q2
  cases hnamed.symm.trans q3
  have hselP : selectMethod e.platform s.vm cellB.cls r0 = .method mk := by rw [Launch.admits_selectMethod X.admits]; exact q4
  have hpubM : hasFlag methM.accessFlags Acc.public_ = true := Cond.publicMethod_spec hnamed hmethM hpub
  have hway : ((cellB.cls :: s.vm.superclasses cellB.cls).any fun k => (declaredIn s.vm r.name r.desc k).any fun (_, z) => z.isPrivate || z.isStatic) = false := by
    rw [hnameR, hdescR]; exact Cond.unhidden_spec hcls hunh
  obtain ⟨c3, t3, w1, w2, w3⟩ := Cond.castable_spec hcast
  cases hcls.symm.trans w1
  cases hcL.symm.trans w2
  obtain ⟨vm₁, X₁, hstep₁⟩ := X.invokeinterface hexec hown hlink hn hrm hstR (by rw [hr0cls]; exact hkL) hiL hx (a := b) (cell := cellB) (kcell := kB) hcell
    (fun z h => by rw [h] at hobj; cases hobj) hkB (by rw [hr0cls]; exact w3) hselP hmethM hway hpubM habM (g := g) hg (argsL := argsL) (rest := rest) (hlen _ hsigR) hstack hdg
  rcases hK m meth c ⟨T.setVm vm₁, locs, cells, slots⟩ { g with stack := rest } (.invokeinterface index count) mk (Value.ref b :: argsL).toArray X₁ hg hsize hdg hW (X₁.named hnamed) (hpre vm₁ X₁.warmed) with ⟨v, B, X', hpost, hsteps⟩ | ⟨q, B, X', hpost, hsteps⟩
  · exact Or.inl ⟨v, vm₁, B, X₁.warmed, X', hpost, fun target h => hstep₁ _ fun acts => by rw [doInvoke_state]; exact hsteps.trans h⟩
  · exact Or.inr ⟨q, vm₁, B, X₁.warmed, X', hpost, hstep₁ _ fun acts => by rw [doInvoke_state]; exact hsteps⟩
theorem vx_runFW {x y : MethodName} {bytes cc : ByteArray} {maxL nL mc ms n index count : Nat} {ret : Option FieldType} {hh : List (Nat × Nat × Nat × Nat)} {ws : List Cond} {rm : Room} {Pc : Array Value → State → Prop} {Qc : Array Value → State → Outcome → State → Prop} {XC : String → State → State → Prop} {free : Addr → Prop} {Ts : List Cond} {own C : String} {cC : ClassId} {b : Addr} {As rest : List Value} {g : JFrame}
    (hat : ClassAt s C cC) (S : CallFix p m c cc nL s args Ts own) (hM : vx_Met l y ws rm Pc Qc XC mc ms free) (cw : va_CIW R s args own C index x y bytes maxL ret hh ws rm mc ms n) (hp : PreV s H C b Pc As)
    (hg : g.method = m) (hn : As.length = n) (hsize : g.locals.size = nL) (hstack : g.stack = As.reverse ++ .ref b :: rest) (hW : 2 * g.monitorRoom + (rest.map fun v => v.category).sum ≤ 8) (hdg : decode cc g.pc = .ok (.invokeinterface index count, 5)) (hf : cells + mc ≤ R.cells ∧ slots + ms ≤ R.slots) :
    vx_Run5 p l e R s m args below meth c H locs cells slots mc ms g rest (Qc (Value.ref b :: As).toArray) XC free := by
  obtain ⟨hrc, hrs, hfr, hlo, hws, hcw⟩ := cw.back
  have hini := cw.init
  have hK : vx_Back l R p e below s args y 5 8 (PreOf R mc ms Pc) (PostOf Qc mc ms free) (vx_Post XC mc ms free) := vx_backW (hh := hh) (bytes := bytes) (maxL := maxL) (ret := ret) hM hp.1 hrc hrs hfr hlo hws hcw (fun a' U hW => word_at hW (Or.inl (by first | rfl | simp [Cond.onTables, Cond.keeps, Cond.steady])) hini)
  obtain ⟨hx, hb, hml, ho, -⟩ := S
  obtain ⟨-, ⟨cellB, hcB, hoB, hclB⟩, hPc⟩ := hp
  obtain ⟨hfc, kB, hkB, -⟩ := hat
  cases hfc.symm.trans hclB
  intro T hT X
  rcases vx_callIFW X hx (C := C) (hh := hh) (bytes := bytes) (maxL := maxL) (ret := ret) ho cw.link cw.decl cw.face cw.sel cw.inst cw.pub cw.unh cw.cast cw.code cw.notMH hK (by rw [hT]; exact hcB) hoB hclB hkB hg (hsize.trans hml.symm) (argsL := As) (rest := rest) (fun sig h => hn.trans (cw.len sig h)) hstack hW (by rw [hb]; exact hdg)
    (fun vm₁ hW₁ => ⟨hf.1, hf.2, hPc (T.setVm vm₁) hT hW₁⟩) with ⟨v, vm₁, ⟨U', l2, c2, s2⟩, hW₁, X', ⟨g', mk, t, L, e1, e2, hq, h1, hL, h2, h3⟩, st⟩ | ⟨q, vm₁, ⟨U', l2, c2, s2⟩, hW₁, X', ⟨g', mk, t, L, E, ce, e1, e2, hq, hce, hcv, hcl, h1, hL, h2, h3⟩, st⟩
  · dsimp only [Pt.U, Pt.locs, Pt.cells, Pt.slots] at X' e1 e2 h1 h2 h3 st
    subst h1; subst h2; subst h3
    exact Or.inl ⟨v, (T.setVm vm₁).calling g' mk (Value.ref b :: As).toArray, t, U', L, hT, X', hL, e1, e2, hq, st⟩
  · dsimp only [Pt.U, Pt.locs, Pt.cells, Pt.slots] at X' e1 e2 h1 h2 h3 st hcl
    subst h1; subst h2; subst h3
    exact Or.inr ⟨q, (T.setVm vm₁).calling g' mk (Value.ref b :: As).toArray, t, U', L, E, ce, hT, X', hL, e1, e2, hq, hce, hcv, vx_cls hW₁ hcl, st⟩
end
/-! ===== END ===== -/
/-! ===== BEGIN .. of methods that hand back an object of the pool ===== -/
section
variable {p : Program} {l : Launch} {e : Env} {R : Room} {s : State} {m : MethodId} {args : Array Value} {below : List Frame} {meth : Method} {c : Code} {H : Heap} {locs : List Loc} {cells slots : Nat} {Q : State → Prop}
variable {mc ms : Nat} {free : Addr → Prop} {A0 A1 : Nat → Prop} {H0 : Heap} {a : Array Value} {pc : Nat} {ls : Array Slot} {st0 rest : List Value}
theorem vx_callq {S SX : Type} {post : Option Nat → S → Prop} {px : SX → Prop} {B : S → State → Prop} {BX : String → SX → State → Prop} {AX : Nat → Prop} (hr : vx_Run p l e R s m args below meth c H locs cells slots mc ms (F0 m pc ls st0) rest (va_Qq post B A1 a) (vx_X px BX AX) free) (hS : va_S A0 H0 H locs) (hA : ∀ q, q < H.size → A1 q → A0 q) (hf : ∀ q, free q → A0 q) (hAX : ∀ q, q < H.size → AX q → A0 q)
    (kx : ∀ (E : String) (ce : Cell) (q9 : Addr) (u : SX) (t : State) (H1 : Heap) (locs1 : List Loc), t.heap = H1 → s.vm.Alike t.vm → px u → BX E u t → H.size ≤ H1.size → (∀ q : Nat, q < H.size → ¬ AX q → H1[q]? = H[q]?) → va_S A0 H0 H1 locs1 → H1[q9]? = some ce → ce.vm = .none → s.vm.findClass E = some ce.cls → vx_W p l e R s m args below meth c H1 locs1 (cells + mc) (slots + ms) Q (F0 m pc ls rest) q9)
    (kk : ∀ (r : Option Nat) (u : S) (t : State) (H1 : Heap) (locs1 : List Loc), t.heap = H1 → s.vm.Alike t.vm → post r u → B u t → H.size ≤ H1.size → (∀ q : Nat, q < H.size → ¬ A1 q → H1[q]? = H[q]?) → va_S A0 H0 H1 locs1 → W p l e R s m args below meth c H1 locs1 (cells + mc) (slots + ms) Q (F0 m (pc + 3) ls (va_rf r :: rest))) : W p l e R s m args below meth c H locs cells slots Q (F0 m pc ls st0) := by
  intro T hT X
  rcases hr T hT X with ⟨v, st₀, t, T', L, h0, X', hL, e1, e2, ⟨⟨r, u, hv, hp, hb⟩, hF⟩, st⟩ | ⟨q, st₀, t, T', L, E, ce, h0, X', hL, e1, e2, ⟨u, hp, hb, hF⟩, hce, hcv, hcl, st⟩
  · cases hv
    obtain ⟨k1, k2, k3⟩ := vx_keep h0 e1 hS hA hf hL hF
    obtain ⟨t2, a1, b1⟩ := kk r u t T'.heap (locs ++ L) e1.symm (by rw [← e2]; exact X'.warmed.alike) hp hb k1 k2 k3 T' rfl X'
    exact ⟨t2, st t2 a1, b1⟩
  · obtain ⟨k1, k2, k3⟩ := vx_keep h0 e1 hS hAX hf hL hF
    obtain ⟨t2, a1, b1⟩ := kx E ce q u t T'.heap (locs ++ L) e1.symm (by rw [← e2]; exact X'.warmed.alike) hp hb k1 k2 k3 (by rw [e1]; exact hce) hcv hcl T' rfl X'
    exact ⟨t2, st.trans a1, b1⟩
end
/-! ===== END ===== -/
/-! ===== BEGIN .. a constant ===== -/
section
variable {p : Program} {l : Launch} {e : Env} {R : Room} {s : State} {m : MethodId} {args : Array Value} {below : List Frame} {meth : Method} {c : Code} {H : Heap} {locs : List Loc} {cells slots : Nat} {Q : State → Prop}
variable {mc ms : Nat} {free : Addr → Prop} {A0 A1 : Nat → Prop} {H0 : Heap} {a : Array Value} {pc : Nat} {ls : Array Slot} {st0 rest : List Value}
theorem vx_calle {ad : Nat → Nat} {S SX : Type} {post : Option Nat → S → Prop} {px : SX → Prop} {B : S → State → Prop} {BX : String → SX → State → Prop} {AX : Nat → Prop} (hr : vx_Run p l e R s m args below meth c H locs cells slots mc ms (F0 m pc ls st0) rest (va_Qe ad post B A1 a) (vx_X px BX AX) free) (hS : va_S A0 H0 H locs) (hA : ∀ q, q < H.size → A1 q → A0 q) (hf : ∀ q, free q → A0 q) (hAX : ∀ q, q < H.size → AX q → A0 q)
    (kx : ∀ (E : String) (ce : Cell) (q9 : Addr) (u : SX) (t : State) (H1 : Heap) (locs1 : List Loc), t.heap = H1 → s.vm.Alike t.vm → px u → BX E u t → H.size ≤ H1.size → (∀ q : Nat, q < H.size → ¬ AX q → H1[q]? = H[q]?) → va_S A0 H0 H1 locs1 → H1[q9]? = some ce → ce.vm = .none → s.vm.findClass E = some ce.cls → vx_W p l e R s m args below meth c H1 locs1 (cells + mc) (slots + ms) Q (F0 m pc ls rest) q9)
    (kk : ∀ (r : Option Nat) (u : S) (t : State) (H1 : Heap) (locs1 : List Loc), t.heap = H1 → s.vm.Alike t.vm → post r u → B u t → H.size ≤ H1.size → (∀ q : Nat, q < H.size → ¬ A1 q → H1[q]? = H[q]?) → va_S A0 H0 H1 locs1 → W p l e R s m args below meth c H1 locs1 (cells + mc) (slots + ms) Q (F0 m (pc + 3) ls (va_re ad r :: rest))) : W p l e R s m args below meth c H locs cells slots Q (F0 m pc ls st0) := by
  intro T hT X
  rcases hr T hT X with ⟨v, st₀, t, T', L, h0, X', hL, e1, e2, ⟨⟨r, u, hv, hp, hb⟩, hF⟩, st⟩ | ⟨q, st₀, t, T', L, E, ce, h0, X', hL, e1, e2, ⟨u, hp, hb, hF⟩, hce, hcv, hcl, st⟩
  · cases hv
    obtain ⟨k1, k2, k3⟩ := vx_keep h0 e1 hS hA hf hL hF
    obtain ⟨t2, a1, b1⟩ := kk r u t T'.heap (locs ++ L) e1.symm (by rw [← e2]; exact X'.warmed.alike) hp hb k1 k2 k3 T' rfl X'
    exact ⟨t2, st t2 a1, b1⟩
  · obtain ⟨k1, k2, k3⟩ := vx_keep h0 e1 hS hAX hf hL hF
    obtain ⟨t2, a1, b1⟩ := kx E ce q u t T'.heap (locs ++ L) e1.symm (by rw [← e2]; exact X'.warmed.alike) hp hb k1 k2 k3 (by rw [e1]; exact hce) hcv hcl T' rfl X'
    exact ⟨t2, st.trans a1, b1⟩
end
/-! ===== END ===== -/
/-! ===== BEGIN .. by an interface, an object ===== -/
section
variable {p : Program} {l : Launch} {e : Env} {R : Room} {s : State} {m : MethodId} {args : Array Value} {below : List Frame} {meth : Method} {c : Code} {H : Heap} {locs : List Loc} {cells slots : Nat} {Q : State → Prop}
variable {mc ms : Nat} {free : Addr → Prop} {A0 A1 : Nat → Prop} {H0 : Heap} {a : Array Value} {pc : Nat} {ls : Array Slot} {st0 rest : List Value}
theorem vx_callFq {S SX : Type} {post : Option Nat → S → Prop} {px : SX → Prop} {B : S → State → Prop} {BX : String → SX → State → Prop} {AX : Nat → Prop} (hr : vx_Run5 p l e R s m args below meth c H locs cells slots mc ms (F0 m pc ls st0) rest (va_Qq post B A1 a) (vx_X px BX AX) free) (hS : va_S A0 H0 H locs) (hA : ∀ q, q < H.size → A1 q → A0 q) (hf : ∀ q, free q → A0 q) (hAX : ∀ q, q < H.size → AX q → A0 q)
    (kx : ∀ (E : String) (ce : Cell) (q9 : Addr) (u : SX) (t : State) (H1 : Heap) (locs1 : List Loc), t.heap = H1 → s.vm.Alike t.vm → px u → BX E u t → H.size ≤ H1.size → (∀ q : Nat, q < H.size → ¬ AX q → H1[q]? = H[q]?) → va_S A0 H0 H1 locs1 → H1[q9]? = some ce → ce.vm = .none → s.vm.findClass E = some ce.cls → vx_W p l e R s m args below meth c H1 locs1 (cells + mc) (slots + ms) Q (F0 m pc ls rest) q9)
    (kk : ∀ (r : Option Nat) (u : S) (t : State) (H1 : Heap) (locs1 : List Loc), t.heap = H1 → s.vm.Alike t.vm → post r u → B u t → H.size ≤ H1.size → (∀ q : Nat, q < H.size → ¬ A1 q → H1[q]? = H[q]?) → va_S A0 H0 H1 locs1 → W p l e R s m args below meth c H1 locs1 (cells + mc) (slots + ms) Q (F0 m (pc + 5) ls (va_rf r :: rest))) : W p l e R s m args below meth c H locs cells slots Q (F0 m pc ls st0) := by
  intro T hT X
  rcases hr T hT X with ⟨v, st₀, t, T', L, h0, X', hL, e1, e2, ⟨⟨r, u, hv, hp, hb⟩, hF⟩, st⟩ | ⟨q, st₀, t, T', L, E, ce, h0, X', hL, e1, e2, ⟨u, hp, hb, hF⟩, hce, hcv, hcl, st⟩
  · cases hv
    obtain ⟨k1, k2, k3⟩ := vx_keep h0 e1 hS hA hf hL hF
    obtain ⟨t2, a1, b1⟩ := kk r u t T'.heap (locs ++ L) e1.symm (by rw [← e2]; exact X'.warmed.alike) hp hb k1 k2 k3 T' rfl X'
    exact ⟨t2, st t2 a1, b1⟩
  · obtain ⟨k1, k2, k3⟩ := vx_keep h0 e1 hS hAX hf hL hF
    obtain ⟨t2, a1, b1⟩ := kx E ce q u t T'.heap (locs ++ L) e1.symm (by rw [← e2]; exact X'.warmed.alike) hp hb k1 k2 k3 (by rw [e1]; exact hce) hcv hcl T' rfl X'
    exact ⟨t2, st.trans a1, b1⟩
end
/-! ===== END ===== -/
/-! ===== BEGIN .. by an interface, a constant ===== -/
section
variable {p : Program} {l : Launch} {e : Env} {R : Room} {s : State} {m : MethodId} {args : Array Value} {below : List Frame} {meth : Method} {c : Code} {H : Heap} {locs : List Loc} {cells slots : Nat} {Q : State → Prop}
variable {mc ms : Nat} {free : Addr → Prop} {A0 A1 : Nat → Prop} {H0 : Heap} {a : Array Value} {pc : Nat} {ls : Array Slot} {st0 rest : List Value}
theorem vx_callFe {ad : Nat → Nat} {S SX : Type} {post : Option Nat → S → Prop} {px : SX → Prop} {B : S → State → Prop} {BX : String → SX → State → Prop} {AX : Nat → Prop} (hr : vx_Run5 p l e R s m args below meth c H locs cells slots mc ms (F0 m pc ls st0) rest (va_Qe ad post B A1 a) (vx_X px BX AX) free) (hS : va_S A0 H0 H locs) (hA : ∀ q, q < H.size → A1 q → A0 q) (hf : ∀ q, free q → A0 q) (hAX : ∀ q, q < H.size → AX q → A0 q)
    (kx : ∀ (E : String) (ce : Cell) (q9 : Addr) (u : SX) (t : State) (H1 : Heap) (locs1 : List Loc), t.heap = H1 → s.vm.Alike t.vm → px u → BX E u t → H.size ≤ H1.size → (∀ q : Nat, q < H.size → ¬ AX q → H1[q]? = H[q]?) → va_S A0 H0 H1 locs1 → H1[q9]? = some ce → ce.vm = .none → s.vm.findClass E = some ce.cls → vx_W p l e R s m args below meth c H1 locs1 (cells + mc) (slots + ms) Q (F0 m pc ls rest) q9)
    (kk : ∀ (r : Option Nat) (u : S) (t : State) (H1 : Heap) (locs1 : List Loc), t.heap = H1 → s.vm.Alike t.vm → post r u → B u t → H.size ≤ H1.size → (∀ q : Nat, q < H.size → ¬ A1 q → H1[q]? = H[q]?) → va_S A0 H0 H1 locs1 → W p l e R s m args below meth c H1 locs1 (cells + mc) (slots + ms) Q (F0 m (pc + 5) ls (va_re ad r :: rest))) : W p l e R s m args below meth c H locs cells slots Q (F0 m pc ls st0) := by
  intro T hT X
  rcases hr T hT X with ⟨v, st₀, t, T', L, h0, X', hL, e1, e2, ⟨⟨r, u, hv, hp, hb⟩, hF⟩, st⟩ | ⟨q, st₀, t, T', L, E, ce, h0, X', hL, e1, e2, ⟨u, hp, hb, hF⟩, hce, hcv, hcl, st⟩
  · cases hv
    obtain ⟨k1, k2, k3⟩ := vx_keep h0 e1 hS hA hf hL hF
    obtain ⟨t2, a1, b1⟩ := kk r u t T'.heap (locs ++ L) e1.symm (by rw [← e2]; exact X'.warmed.alike) hp hb k1 k2 k3 T' rfl X'
    exact ⟨t2, st t2 a1, b1⟩
  · obtain ⟨k1, k2, k3⟩ := vx_keep h0 e1 hS hAX hf hL hF
    obtain ⟨t2, a1, b1⟩ := kx E ce q u t T'.heap (locs ++ L) e1.symm (by rw [← e2]; exact X'.warmed.alike) hp hb k1 k2 k3 (by rw [e1]; exact hce) hcv hcl T' rfl X'
    exact ⟨t2, st.trans a1, b1⟩
end
/-! ===== END ===== -/
/-! ===== BEGIN what the machine throws by itself: null at a field, at athrow ===== -/
section VXM2
variable {p : Program} {l : Launch} {e : Env} {R : Room} {s : State} {m : MethodId} {args : Array Value} {below : List Frame} {meth : Method} {c : Code} {H : Heap} {locs : List Loc} {cells slots : Nat}
variable {Q : State → Prop} {cc : ByteArray} {pc : Nat} {ls : Array Slot} {rest : List Value}
theorem vx_getfN {D cl tys} {own ref C : String} {T : u_T} {N ci index : Nat} {Ts : List Cond} (hexec : p.tables.exec = Jvm.exec) (hb : c.code = cc) (hts : ∀ w ∈ Ts, w.before args s = true) (hin : ∀ w ∈ u_ws C T N, w ∈ Ts) (hown : s.vm.findClass own = some m.cls) (hK : va_K D cl tys s) (hc : cl[ci]? = some (C, T, N)) (k : Nat) (hk : k < N) (hlink : (Cond.fieldLink own index ref (T k).2.1 (T k).2.2.1).before args s = true) (hsame : ∀ x, s.fieldFound? (T k).1 (T k).2.1 (T k).2.2.1 = some x → s.fieldFound? ref (T k).2.1 (T k).2.2.1 = some x) (hdg : decode cc pc = .ok (.getfield index, 3)) (kk : vx_NoteN p l e R s m args below meth c H locs cells slots Q (F0 m pc ls rest)) : W p l e R s m args below meth c H locs cells slots Q (F0 m pc ls (.null :: rest)) := by
  obtain ⟨hS, hfc, kC, hkC, -⟩ := hK.1 ci _ hc
  obtain ⟨cf, kf, fi, f, hi, -⟩ := hS k hk
  intro U hU X
  obtain ⟨vm', X1, st1⟩ := X.getfieldNull hexec hown hlink (hsame _ hi) (u_facts hfc hkC (u_lays hts hin hk) hi).1 (g := F0 m pc ls (.null :: rest)) rfl (rest := rest) rfl (by rw [hb]; exact hdg)
  obtain ⟨t, st, q⟩ := kk (U.setVm vm') hU X1
  exact ⟨t, st1 t st, q⟩
theorem vx_getfNN {D cl tys} {own ref C host : String} {T : u_T} {N ci index : Nat} {Ts : List Cond} (hexec : p.tables.exec = Jvm.exec) (hb : c.code = cc) (hts : ∀ w ∈ Ts, w.before args s = true) (hin : ∀ w ∈ u_ws C T N, w ∈ Ts) (hown : s.vm.findClass own = some m.cls) (hK : va_K D cl tys s) (hc : cl[ci]? = some (C, T, N)) (k : Nat) (hk : k < N) (hlink : (Cond.fieldLinkNest own index ref (T k).2.1 (T k).2.2.1 host).before args s = true) (hsame : ∀ x, s.fieldFound? (T k).1 (T k).2.1 (T k).2.2.1 = some x → s.fieldFound? ref (T k).2.1 (T k).2.2.1 = some x) (hdg : decode cc pc = .ok (.getfield index, 3)) (kk : vx_NoteN p l e R s m args below meth c H locs cells slots Q (F0 m pc ls rest)) : W p l e R s m args below meth c H locs cells slots Q (F0 m pc ls (.null :: rest)) := by
  obtain ⟨hS, hfc, kC, hkC, -⟩ := hK.1 ci _ hc
  obtain ⟨cf, kf, fi, f, hi, -⟩ := hS k hk
  intro U hU X
  obtain ⟨vm', X1, st1⟩ := X.getfieldNullNest hexec hown hlink (hsame _ hi) (u_facts hfc hkC (u_lays hts hin hk) hi).1 (g := F0 m pc ls (.null :: rest)) rfl (rest := rest) rfl (by rw [hb]; exact hdg)
  obtain ⟨t, st, q⟩ := kk (U.setVm vm') hU X1
  exact ⟨t, st1 t st, q⟩
theorem vx_putfN {D cl tys} {own ref C : String} {T : u_T} {N ci index : Nat} {Ts : List Cond} (hexec : p.tables.exec = Jvm.exec) (hb : c.code = cc) (hts : ∀ w ∈ Ts, w.before args s = true) (hin : ∀ w ∈ u_ws C T N, w ∈ Ts) (hown : s.vm.findClass own = some m.cls) (hK : va_K D cl tys s) (hc : cl[ci]? = some (C, T, N)) (k : Nat) (hk : k < N) (hlink : (Cond.fieldLink own index ref (T k).2.1 (T k).2.2.1).before args s = true) (hsame : ∀ x, s.fieldFound? (T k).1 (T k).2.1 (T k).2.2.1 = some x → s.fieldFound? ref (T k).2.1 (T k).2.2.1 = some x) (hfin : (T k).2.2.2 = false) {v : Value} (hdg : decode cc pc = .ok (.putfield index, 3)) (kk : vx_NoteN p l e R s m args below meth c H locs cells slots Q (F0 m pc ls rest)) : W p l e R s m args below meth c H locs cells slots Q (F0 m pc ls (v :: .null :: rest)) := by
  obtain ⟨hS, hfc, kC, hkC, -⟩ := hK.1 ci _ hc
  obtain ⟨cf, kf, fi, f, hi, -⟩ := hS k hk
  have hlay := hts _ (hin _ (u_in_lay hk))
  unfold u_lay at hlay
  rw [if_neg (by rw [hfin]; decide)] at hlay
  obtain ⟨c9, k9, cf9, kf9, fi9, f9, -, -, hi9, hst9, hnf9, -⟩ := Cond.lays_spec hlay
  cases hi.symm.trans hi9
  intro U hU X
  obtain ⟨vm', X1, st1⟩ := X.putfieldNull hexec hown hlink (hsame _ hi) hst9 hnf9 (g := F0 m pc ls (v :: .null :: rest)) rfl (v := v) (rest := rest) rfl (by rw [hb]; exact hdg)
  obtain ⟨t, st, q⟩ := kk (U.setVm vm') hU X1
  exact ⟨t, st1 t st, q⟩
theorem vx_putfNN {D cl tys} {own ref C host : String} {T : u_T} {N ci index : Nat} {Ts : List Cond} (hexec : p.tables.exec = Jvm.exec) (hb : c.code = cc) (hts : ∀ w ∈ Ts, w.before args s = true) (hin : ∀ w ∈ u_ws C T N, w ∈ Ts) (hown : s.vm.findClass own = some m.cls) (hK : va_K D cl tys s) (hc : cl[ci]? = some (C, T, N)) (k : Nat) (hk : k < N) (hlink : (Cond.fieldLinkNest own index ref (T k).2.1 (T k).2.2.1 host).before args s = true) (hsame : ∀ x, s.fieldFound? (T k).1 (T k).2.1 (T k).2.2.1 = some x → s.fieldFound? ref (T k).2.1 (T k).2.2.1 = some x) (hfin : (T k).2.2.2 = false) {v : Value} (hdg : decode cc pc = .ok (.putfield index, 3)) (kk : vx_NoteN p l e R s m args below meth c H locs cells slots Q (F0 m pc ls rest)) : W p l e R s m args below meth c H locs cells slots Q (F0 m pc ls (v :: .null :: rest)) := by
  obtain ⟨hS, hfc, kC, hkC, -⟩ := hK.1 ci _ hc
  obtain ⟨cf, kf, fi, f, hi, -⟩ := hS k hk
  have hlay := hts _ (hin _ (u_in_lay hk))
  unfold u_lay at hlay
  rw [if_neg (by rw [hfin]; decide)] at hlay
  obtain ⟨c9, k9, cf9, kf9, fi9, f9, -, -, hi9, hst9, hnf9, -⟩ := Cond.lays_spec hlay
  cases hi.symm.trans hi9
  intro U hU X
  obtain ⟨vm', X1, st1⟩ := X.putfieldNullNest hexec hown hlink (hsame _ hi) hst9 hnf9 (g := F0 m pc ls (v :: .null :: rest)) rfl (v := v) (rest := rest) rfl (by rw [hb]; exact hdg)
  obtain ⟨t, st, q⟩ := kk (U.setVm vm') hU X1
  exact ⟨t, st1 t st, q⟩
theorem vx_athrowN (hexec : p.tables.exec = Jvm.exec) (hb : c.code = cc) (hdg : decode cc pc = .ok (.athrow, 1)) (k : vx_NoteN p l e R s m args below meth c H locs cells slots Q (F0 m pc ls rest)) : W p l e R s m args below meth c H locs cells slots Q (F0 m pc ls (.null :: rest)) := by
  intro T hT X
  obtain ⟨t, st, q⟩ := k T hT X
  exact ⟨t, X.athrowNull hexec (g := F0 m pc ls (.null :: rest)) rfl (rest := rest) rfl (by rw [hb]; exact hdg) t st, q⟩
end VXM2
/-! ===== END ===== -/

/-- a private method of a class that the tables say can be made, by its rows of tables_1 -/
def lw_okq (q : MethodName × Nat) : Prop := (q.1.cls ≠ "java/lang/invoke/MethodHandle" ∧ q.1.cls ≠ "java/lang/invoke/VarHandle") ∧ Cond.instantiable q.1.cls q.2 ∈ tables_1 ∧ Cond.privateMethod q.1 ∈ tables_1 ∧ Cond.instanceMethod q.1 ∈ tables_1
theorem lw_p0 : lw_okq (⟨"RangeGraves$Text", "digitFits", "(II)Z"⟩, 2) := ⟨⟨by decide +kernel, by decide +kernel⟩, List.mem_of_getElem? (i := 92) (by decide +kernel), List.mem_of_getElem? (i := 220) (by decide +kernel), List.mem_of_getElem? (i := 221) (by decide +kernel)⟩
theorem lw_p1 : lw_okq (⟨"RangeGraves$Cleaner", "dropHidden", "(LRangeGraves$Store;II)V"⟩, 5) := ⟨⟨by decide +kernel, by decide +kernel⟩, List.mem_of_getElem? (i := 29) (by decide +kernel), List.mem_of_getElem? (i := 314) (by decide +kernel), List.mem_of_getElem? (i := 315) (by decide +kernel)⟩
theorem lw_p2 : lw_okq (⟨"RangeGraves$Cleaner", "dropNeedless", "(LRangeGraves$Writes;II)V"⟩, 5) := ⟨⟨by decide +kernel, by decide +kernel⟩, List.mem_of_getElem? (i := 29) (by decide +kernel), List.mem_of_getElem? (i := 347) (by decide +kernel), List.mem_of_getElem? (i := 348) (by decide +kernel)⟩
theorem lw_p3 : lw_okq (⟨"RangeGraves$Cleaner", "addRows", "(LRangeGraves$Writes;I)V"⟩, 5) := ⟨⟨by decide +kernel, by decide +kernel⟩, List.mem_of_getElem? (i := 29) (by decide +kernel), List.mem_of_getElem? (i := 359) (by decide +kernel), List.mem_of_getElem? (i := 360) (by decide +kernel)⟩
theorem lw_p4 : lw_okq (⟨"java/lang/Throwable", "fillInStackTrace", "(I)Ljava/lang/Throwable;"⟩, 6) := ⟨⟨by decide +kernel, by decide +kernel⟩, List.mem_of_getElem? (i := 456) (by decide +kernel), List.mem_of_getElem? (i := 454) (by decide +kernel), List.mem_of_getElem? (i := 455) (by decide +kernel)⟩
theorem lw_p5 : lw_okq (⟨"RangeGraves", "doTextCommand", "(I)Z"⟩, 7) := ⟨⟨by decide +kernel, by decide +kernel⟩, List.mem_of_getElem? (i := 21) (by decide +kernel), List.mem_of_getElem? (i := 528) (by decide +kernel), List.mem_of_getElem? (i := 529) (by decide +kernel)⟩
theorem lw_p6 : lw_okq (⟨"RangeGraves", "seenNow", "(LRangeGraves$Store;)I"⟩, 7) := ⟨⟨by decide +kernel, by decide +kernel⟩, List.mem_of_getElem? (i := 21) (by decide +kernel), List.mem_of_getElem? (i := 612) (by decide +kernel), List.mem_of_getElem? (i := 613) (by decide +kernel)⟩
theorem lw_p7 : lw_okq (⟨"RangeGraves", "doGroup", "(I)Z"⟩, 7) := ⟨⟨by decide +kernel, by decide +kernel⟩, List.mem_of_getElem? (i := 21) (by decide +kernel), List.mem_of_getElem? (i := 863) (by decide +kernel), List.mem_of_getElem? (i := 864) (by decide +kernel)⟩
theorem lw_p8 : lw_okq (⟨"RangeGraves", "doTurn", "(I)V"⟩, 7) := ⟨⟨by decide +kernel, by decide +kernel⟩, List.mem_of_getElem? (i := 21) (by decide +kernel), List.mem_of_getElem? (i := 877) (by decide +kernel), List.mem_of_getElem? (i := 878) (by decide +kernel)⟩
theorem lw_p9 : lw_okq (⟨"RangeGravesModel", "holds", "(I)Z"⟩, 17) := ⟨⟨by decide +kernel, by decide +kernel⟩, List.mem_of_getElem? (i := 898) (by decide +kernel), List.mem_of_getElem? (i := 967) (by decide +kernel), List.mem_of_getElem? (i := 968) (by decide +kernel)⟩
theorem lw_p10 : lw_okq (⟨"RangeGravesModel", "go", "(Z)I"⟩, 17) := ⟨⟨by decide +kernel, by decide +kernel⟩, List.mem_of_getElem? (i := 898) (by decide +kernel), List.mem_of_getElem? (i := 979) (by decide +kernel), List.mem_of_getElem? (i := 980) (by decide +kernel)⟩
theorem lw_p11 : lw_okq (⟨"RangeGravesModel", "sign", "(II)I"⟩, 17) := ⟨⟨by decide +kernel, by decide +kernel⟩, List.mem_of_getElem? (i := 898) (by decide +kernel), List.mem_of_getElem? (i := 983) (by decide +kernel), List.mem_of_getElem? (i := 984) (by decide +kernel)⟩
theorem lw_p12 : lw_okq (⟨"RangeGravesModel", "command", "()V"⟩, 17) := ⟨⟨by decide +kernel, by decide +kernel⟩, List.mem_of_getElem? (i := 898) (by decide +kernel), List.mem_of_getElem? (i := 987) (by decide +kernel), List.mem_of_getElem? (i := 988) (by decide +kernel)⟩
theorem lw_p13 : lw_okq (⟨"RangeGravesModel", "key", "()I"⟩, 17) := ⟨⟨by decide +kernel, by decide +kernel⟩, List.mem_of_getElem? (i := 898) (by decide +kernel), List.mem_of_getElem? (i := 991) (by decide +kernel), List.mem_of_getElem? (i := 992) (by decide +kernel)⟩
theorem lw_p14 : lw_okq (⟨"RangeGravesModel", "does", "()Z"⟩, 17) := ⟨⟨by decide +kernel, by decide +kernel⟩, List.mem_of_getElem? (i := 898) (by decide +kernel), List.mem_of_getElem? (i := 995) (by decide +kernel), List.mem_of_getElem? (i := 996) (by decide +kernel)⟩
theorem lw_p15 : lw_okq (⟨"RangeGravesModel", "putFault", "(II)I"⟩, 17) := ⟨⟨by decide +kernel, by decide +kernel⟩, List.mem_of_getElem? (i := 898) (by decide +kernel), List.mem_of_getElem? (i := 999) (by decide +kernel), List.mem_of_getElem? (i := 1000) (by decide +kernel)⟩
def lw_privs_1 : List (MethodName × Nat) := [(⟨"RangeGraves$Text", "digitFits", "(II)Z"⟩, 2), (⟨"RangeGraves$Cleaner", "dropHidden", "(LRangeGraves$Store;II)V"⟩, 5), (⟨"RangeGraves$Cleaner", "dropNeedless", "(LRangeGraves$Writes;II)V"⟩, 5), (⟨"RangeGraves$Cleaner", "addRows", "(LRangeGraves$Writes;I)V"⟩, 5), (⟨"java/lang/Throwable", "fillInStackTrace", "(I)Ljava/lang/Throwable;"⟩, 6), (⟨"RangeGraves", "doTextCommand", "(I)Z"⟩, 7), (⟨"RangeGraves", "seenNow", "(LRangeGraves$Store;)I"⟩, 7), (⟨"RangeGraves", "doGroup", "(I)Z"⟩, 7), (⟨"RangeGraves", "doTurn", "(I)V"⟩, 7), (⟨"RangeGravesModel", "holds", "(I)Z"⟩, 17), (⟨"RangeGravesModel", "go", "(Z)I"⟩, 17), (⟨"RangeGravesModel", "sign", "(II)I"⟩, 17), (⟨"RangeGravesModel", "command", "()V"⟩, 17), (⟨"RangeGravesModel", "key", "()I"⟩, 17), (⟨"RangeGravesModel", "does", "()Z"⟩, 17), (⟨"RangeGravesModel", "putFault", "(II)I"⟩, 17)]
theorem lw_r1 : ∀ q ∈ lw_privs_1, lw_okq q := List.forall_mem_cons.mpr ⟨lw_p0, List.forall_mem_cons.mpr ⟨lw_p1, List.forall_mem_cons.mpr ⟨lw_p2, List.forall_mem_cons.mpr ⟨lw_p3, List.forall_mem_cons.mpr ⟨lw_p4, List.forall_mem_cons.mpr ⟨lw_p5, List.forall_mem_cons.mpr ⟨lw_p6, List.forall_mem_cons.mpr ⟨lw_p7, List.forall_mem_cons.mpr ⟨lw_p8, List.forall_mem_cons.mpr ⟨lw_p9, List.forall_mem_cons.mpr ⟨lw_p10, List.forall_mem_cons.mpr ⟨lw_p11, List.forall_mem_cons.mpr ⟨lw_p12, List.forall_mem_cons.mpr ⟨lw_p13, List.forall_mem_cons.mpr ⟨lw_p14, List.forall_mem_cons.mpr ⟨lw_p15, fun _ h => absurd h List.not_mem_nil⟩⟩⟩⟩⟩⟩⟩⟩⟩⟩⟩⟩⟩⟩⟩⟩
theorem lw_p16 : lw_okq (⟨"RangeGravesModel", "all", "()I"⟩, 17) := ⟨⟨by decide +kernel, by decide +kernel⟩, List.mem_of_getElem? (i := 898) (by decide +kernel), List.mem_of_getElem? (i := 1006) (by decide +kernel), List.mem_of_getElem? (i := 1007) (by decide +kernel)⟩
theorem lw_p17 : lw_okq (⟨"RangeGravesModel", "begin", "(I)I"⟩, 17) := ⟨⟨by decide +kernel, by decide +kernel⟩, List.mem_of_getElem? (i := 898) (by decide +kernel), List.mem_of_getElem? (i := 1010) (by decide +kernel), List.mem_of_getElem? (i := 1011) (by decide +kernel)⟩
theorem lw_p18 : lw_okq (⟨"RangeGravesModel", "buryFault", "(II)I"⟩, 17) := ⟨⟨by decide +kernel, by decide +kernel⟩, List.mem_of_getElem? (i := 898) (by decide +kernel), List.mem_of_getElem? (i := 1014) (by decide +kernel), List.mem_of_getElem? (i := 1015) (by decide +kernel)⟩
theorem lw_p19 : lw_okq (⟨"RangeGravesModel", "flushFault", "()I"⟩, 17) := ⟨⟨by decide +kernel, by decide +kernel⟩, List.mem_of_getElem? (i := 898) (by decide +kernel), List.mem_of_getElem? (i := 1018) (by decide +kernel), List.mem_of_getElem? (i := 1019) (by decide +kernel)⟩
theorem lw_p20 : lw_okq (⟨"RangeGravesModel", "clean", "(IIZ)V"⟩, 17) := ⟨⟨by decide +kernel, by decide +kernel⟩, List.mem_of_getElem? (i := 898) (by decide +kernel), List.mem_of_getElem? (i := 1022) (by decide +kernel), List.mem_of_getElem? (i := 1023) (by decide +kernel)⟩
theorem lw_p21 : lw_okq (⟨"RangeGravesModel", "isEntry", "(I)Z"⟩, 17) := ⟨⟨by decide +kernel, by decide +kernel⟩, List.mem_of_getElem? (i := 898) (by decide +kernel), List.mem_of_getElem? (i := 1026) (by decide +kernel), List.mem_of_getElem? (i := 1027) (by decide +kernel)⟩
theorem lw_p22 : lw_okq (⟨"RangeGravesModel", "isCovered", "(IIIIZ)Z"⟩, 17) := ⟨⟨by decide +kernel, by decide +kernel⟩, List.mem_of_getElem? (i := 898) (by decide +kernel), List.mem_of_getElem? (i := 1033) (by decide +kernel), List.mem_of_getElem? (i := 1034) (by decide +kernel)⟩
theorem lw_p23 : lw_okq (⟨"RangeGravesModel", "concerns", "(II)Z"⟩, 17) := ⟨⟨by decide +kernel, by decide +kernel⟩, List.mem_of_getElem? (i := 898) (by decide +kernel), List.mem_of_getElem? (i := 1037) (by decide +kernel), List.mem_of_getElem? (i := 1038) (by decide +kernel)⟩
theorem lw_p24 : lw_okq (⟨"RangeGravesModel", "areParted", "(II)Z"⟩, 17) := ⟨⟨by decide +kernel, by decide +kernel⟩, List.mem_of_getElem? (i := 898) (by decide +kernel), List.mem_of_getElem? (i := 1041) (by decide +kernel), List.mem_of_getElem? (i := 1042) (by decide +kernel)⟩
theorem lw_p25 : lw_okq (⟨"RangeGravesModel", "leave", "(III)V"⟩, 17) := ⟨⟨by decide +kernel, by decide +kernel⟩, List.mem_of_getElem? (i := 898) (by decide +kernel), List.mem_of_getElem? (i := 1045) (by decide +kernel), List.mem_of_getElem? (i := 1046) (by decide +kernel)⟩
theorem lw_p26 : lw_okq (⟨"RangeGravesModel", "cut", "(IIIZ)V"⟩, 17) := ⟨⟨by decide +kernel, by decide +kernel⟩, List.mem_of_getElem? (i := 898) (by decide +kernel), List.mem_of_getElem? (i := 1049) (by decide +kernel), List.mem_of_getElem? (i := 1050) (by decide +kernel)⟩
theorem lw_p27 : lw_okq (⟨"RangeGravesModel", "hasOlderEntry", "(IIII)Z"⟩, 17) := ⟨⟨by decide +kernel, by decide +kernel⟩, List.mem_of_getElem? (i := 898) (by decide +kernel), List.mem_of_getElem? (i := 1053) (by decide +kernel), List.mem_of_getElem? (i := 1054) (by decide +kernel)⟩
theorem lw_p28 : lw_okq (⟨"RangeGravesModel", "isRoomFor", "(II)Z"⟩, 17) := ⟨⟨by decide +kernel, by decide +kernel⟩, List.mem_of_getElem? (i := 898) (by decide +kernel), List.mem_of_getElem? (i := 1057) (by decide +kernel), List.mem_of_getElem? (i := 1058) (by decide +kernel)⟩
theorem lw_p29 : lw_okq (⟨"RangeGravesModel", "mergeFault", "(I)I"⟩, 17) := ⟨⟨by decide +kernel, by decide +kernel⟩, List.mem_of_getElem? (i := 898) (by decide +kernel), List.mem_of_getElem? (i := 1061) (by decide +kernel), List.mem_of_getElem? (i := 1062) (by decide +kernel)⟩
theorem lw_p30 : lw_okq (⟨"RangeGravesModel", "isRun", "(I)Z"⟩, 17) := ⟨⟨by decide +kernel, by decide +kernel⟩, List.mem_of_getElem? (i := 898) (by decide +kernel), List.mem_of_getElem? (i := 1065) (by decide +kernel), List.mem_of_getElem? (i := 1066) (by decide +kernel)⟩
theorem lw_p31 : lw_okq (⟨"RangeGravesModel", "isEye", "(I)Z"⟩, 17) := ⟨⟨by decide +kernel, by decide +kernel⟩, List.mem_of_getElem? (i := 898) (by decide +kernel), List.mem_of_getElem? (i := 1069) (by decide +kernel), List.mem_of_getElem? (i := 1070) (by decide +kernel)⟩
def lw_privs_2 : List (MethodName × Nat) := [(⟨"RangeGravesModel", "all", "()I"⟩, 17), (⟨"RangeGravesModel", "begin", "(I)I"⟩, 17), (⟨"RangeGravesModel", "buryFault", "(II)I"⟩, 17), (⟨"RangeGravesModel", "flushFault", "()I"⟩, 17), (⟨"RangeGravesModel", "clean", "(IIZ)V"⟩, 17), (⟨"RangeGravesModel", "isEntry", "(I)Z"⟩, 17), (⟨"RangeGravesModel", "isCovered", "(IIIIZ)Z"⟩, 17), (⟨"RangeGravesModel", "concerns", "(II)Z"⟩, 17), (⟨"RangeGravesModel", "areParted", "(II)Z"⟩, 17), (⟨"RangeGravesModel", "leave", "(III)V"⟩, 17), (⟨"RangeGravesModel", "cut", "(IIIZ)V"⟩, 17), (⟨"RangeGravesModel", "hasOlderEntry", "(IIII)Z"⟩, 17), (⟨"RangeGravesModel", "isRoomFor", "(II)Z"⟩, 17), (⟨"RangeGravesModel", "mergeFault", "(I)I"⟩, 17), (⟨"RangeGravesModel", "isRun", "(I)Z"⟩, 17), (⟨"RangeGravesModel", "isEye", "(I)Z"⟩, 17)]
theorem lw_r2 : ∀ q ∈ lw_privs_2, lw_okq q := List.forall_mem_cons.mpr ⟨lw_p16, List.forall_mem_cons.mpr ⟨lw_p17, List.forall_mem_cons.mpr ⟨lw_p18, List.forall_mem_cons.mpr ⟨lw_p19, List.forall_mem_cons.mpr ⟨lw_p20, List.forall_mem_cons.mpr ⟨lw_p21, List.forall_mem_cons.mpr ⟨lw_p22, List.forall_mem_cons.mpr ⟨lw_p23, List.forall_mem_cons.mpr ⟨lw_p24, List.forall_mem_cons.mpr ⟨lw_p25, List.forall_mem_cons.mpr ⟨lw_p26, List.forall_mem_cons.mpr ⟨lw_p27, List.forall_mem_cons.mpr ⟨lw_p28, List.forall_mem_cons.mpr ⟨lw_p29, List.forall_mem_cons.mpr ⟨lw_p30, List.forall_mem_cons.mpr ⟨lw_p31, fun _ h => absurd h List.not_mem_nil⟩⟩⟩⟩⟩⟩⟩⟩⟩⟩⟩⟩⟩⟩⟩⟩
theorem lw_p32 : lw_okq (⟨"RangeGravesModel", "writes", "(III)I"⟩, 17) := ⟨⟨by decide +kernel, by decide +kernel⟩, List.mem_of_getElem? (i := 898) (by decide +kernel), List.mem_of_getElem? (i := 1073) (by decide +kernel), List.mem_of_getElem? (i := 1074) (by decide +kernel)⟩
theorem lw_p33 : lw_okq (⟨"RangeGravesModel", "buries", "(II)I"⟩, 17) := ⟨⟨by decide +kernel, by decide +kernel⟩, List.mem_of_getElem? (i := 898) (by decide +kernel), List.mem_of_getElem? (i := 1077) (by decide +kernel), List.mem_of_getElem? (i := 1078) (by decide +kernel)⟩
theorem lw_p34 : lw_okq (⟨"RangeGravesModel", "countSeen", "(III)I"⟩, 17) := ⟨⟨by decide +kernel, by decide +kernel⟩, List.mem_of_getElem? (i := 898) (by decide +kernel), List.mem_of_getElem? (i := 1081) (by decide +kernel), List.mem_of_getElem? (i := 1082) (by decide +kernel)⟩
theorem lw_p35 : lw_okq (⟨"RangeGravesModel", "seen", "(II)I"⟩, 17) := ⟨⟨by decide +kernel, by decide +kernel⟩, List.mem_of_getElem? (i := 898) (by decide +kernel), List.mem_of_getElem? (i := 1085) (by decide +kernel), List.mem_of_getElem? (i := 1086) (by decide +kernel)⟩
theorem lw_p36 : lw_okq (⟨"RangeGravesModel", "upTo", "(I)I"⟩, 17) := ⟨⟨by decide +kernel, by decide +kernel⟩, List.mem_of_getElem? (i := 898) (by decide +kernel), List.mem_of_getElem? (i := 1089) (by decide +kernel), List.mem_of_getElem? (i := 1090) (by decide +kernel)⟩
theorem lw_p37 : lw_okq (⟨"RangeGravesModel", "newest", "(II)I"⟩, 17) := ⟨⟨by decide +kernel, by decide +kernel⟩, List.mem_of_getElem? (i := 898) (by decide +kernel), List.mem_of_getElem? (i := 1093) (by decide +kernel), List.mem_of_getElem? (i := 1094) (by decide +kernel)⟩
theorem lw_p38 : lw_okq (⟨"RangeGravesModel", "flushes", "()I"⟩, 17) := ⟨⟨by decide +kernel, by decide +kernel⟩, List.mem_of_getElem? (i := 898) (by decide +kernel), List.mem_of_getElem? (i := 1097) (by decide +kernel), List.mem_of_getElem? (i := 1098) (by decide +kernel)⟩
theorem lw_p39 : lw_okq (⟨"RangeGravesModel", "replace", "(II)V"⟩, 17) := ⟨⟨by decide +kernel, by decide +kernel⟩, List.mem_of_getElem? (i := 898) (by decide +kernel), List.mem_of_getElem? (i := 1101) (by decide +kernel), List.mem_of_getElem? (i := 1102) (by decide +kernel)⟩
theorem lw_p40 : lw_okq (⟨"RangeGravesModel", "merges", "(I)I"⟩, 17) := ⟨⟨by decide +kernel, by decide +kernel⟩, List.mem_of_getElem? (i := 898) (by decide +kernel), List.mem_of_getElem? (i := 1105) (by decide +kernel), List.mem_of_getElem? (i := 1106) (by decide +kernel)⟩
theorem lw_p41 : lw_okq (⟨"RangeGravesModel", "opens", "()I"⟩, 17) := ⟨⟨by decide +kernel, by decide +kernel⟩, List.mem_of_getElem? (i := 898) (by decide +kernel), List.mem_of_getElem? (i := 1109) (by decide +kernel), List.mem_of_getElem? (i := 1110) (by decide +kernel)⟩
theorem lw_p42 : lw_okq (⟨"RangeGravesModel", "closes", "(I)I"⟩, 17) := ⟨⟨by decide +kernel, by decide +kernel⟩, List.mem_of_getElem? (i := 898) (by decide +kernel), List.mem_of_getElem? (i := 1113) (by decide +kernel), List.mem_of_getElem? (i := 1114) (by decide +kernel)⟩
theorem lw_p43 : lw_okq (⟨"RangeGravesModel", "told", "(I)I"⟩, 17) := ⟨⟨by decide +kernel, by decide +kernel⟩, List.mem_of_getElem? (i := 898) (by decide +kernel), List.mem_of_getElem? (i := 1125) (by decide +kernel), List.mem_of_getElem? (i := 1126) (by decide +kernel)⟩
theorem lw_p44 : lw_okq (⟨"RangeGravesModel", "kinds", "(IIZ)I"⟩, 17) := ⟨⟨by decide +kernel, by decide +kernel⟩, List.mem_of_getElem? (i := 898) (by decide +kernel), List.mem_of_getElem? (i := 1129) (by decide +kernel), List.mem_of_getElem? (i := 1130) (by decide +kernel)⟩
theorem lw_p45 : lw_okq (⟨"RangeGravesModel", "sumSeen", "()I"⟩, 17) := ⟨⟨by decide +kernel, by decide +kernel⟩, List.mem_of_getElem? (i := 898) (by decide +kernel), List.mem_of_getElem? (i := 1133) (by decide +kernel), List.mem_of_getElem? (i := 1134) (by decide +kernel)⟩
theorem lw_p46 : lw_okq (⟨"RangeGravesModel", "isView", "(I)Z"⟩, 17) := ⟨⟨by decide +kernel, by decide +kernel⟩, List.mem_of_getElem? (i := 898) (by decide +kernel), List.mem_of_getElem? (i := 1141) (by decide +kernel), List.mem_of_getElem? (i := 1142) (by decide +kernel)⟩
theorem lw_p47 : lw_okq (⟨"RangeGravesModel", "ofRun", "(II)I"⟩, 17) := ⟨⟨by decide +kernel, by decide +kernel⟩, List.mem_of_getElem? (i := 898) (by decide +kernel), List.mem_of_getElem? (i := 1149) (by decide +kernel), List.mem_of_getElem? (i := 1150) (by decide +kernel)⟩
def lw_privs_3 : List (MethodName × Nat) := [(⟨"RangeGravesModel", "writes", "(III)I"⟩, 17), (⟨"RangeGravesModel", "buries", "(II)I"⟩, 17), (⟨"RangeGravesModel", "countSeen", "(III)I"⟩, 17), (⟨"RangeGravesModel", "seen", "(II)I"⟩, 17), (⟨"RangeGravesModel", "upTo", "(I)I"⟩, 17), (⟨"RangeGravesModel", "newest", "(II)I"⟩, 17), (⟨"RangeGravesModel", "flushes", "()I"⟩, 17), (⟨"RangeGravesModel", "replace", "(II)V"⟩, 17), (⟨"RangeGravesModel", "merges", "(I)I"⟩, 17), (⟨"RangeGravesModel", "opens", "()I"⟩, 17), (⟨"RangeGravesModel", "closes", "(I)I"⟩, 17), (⟨"RangeGravesModel", "told", "(I)I"⟩, 17), (⟨"RangeGravesModel", "kinds", "(IIZ)I"⟩, 17), (⟨"RangeGravesModel", "sumSeen", "()I"⟩, 17), (⟨"RangeGravesModel", "isView", "(I)Z"⟩, 17), (⟨"RangeGravesModel", "ofRun", "(II)I"⟩, 17)]
theorem lw_r3 : ∀ q ∈ lw_privs_3, lw_okq q := List.forall_mem_cons.mpr ⟨lw_p32, List.forall_mem_cons.mpr ⟨lw_p33, List.forall_mem_cons.mpr ⟨lw_p34, List.forall_mem_cons.mpr ⟨lw_p35, List.forall_mem_cons.mpr ⟨lw_p36, List.forall_mem_cons.mpr ⟨lw_p37, List.forall_mem_cons.mpr ⟨lw_p38, List.forall_mem_cons.mpr ⟨lw_p39, List.forall_mem_cons.mpr ⟨lw_p40, List.forall_mem_cons.mpr ⟨lw_p41, List.forall_mem_cons.mpr ⟨lw_p42, List.forall_mem_cons.mpr ⟨lw_p43, List.forall_mem_cons.mpr ⟨lw_p44, List.forall_mem_cons.mpr ⟨lw_p45, List.forall_mem_cons.mpr ⟨lw_p46, List.forall_mem_cons.mpr ⟨lw_p47, fun _ h => absurd h List.not_mem_nil⟩⟩⟩⟩⟩⟩⟩⟩⟩⟩⟩⟩⟩⟩⟩⟩
theorem lw_p48 : lw_okq (⟨"RangeGravesModel", "manyIn", "(I)I"⟩, 17) := ⟨⟨by decide +kernel, by decide +kernel⟩, List.mem_of_getElem? (i := 898) (by decide +kernel), List.mem_of_getElem? (i := 1153) (by decide +kernel), List.mem_of_getElem? (i := 1154) (by decide +kernel)⟩
theorem lw_p49 : lw_okq (⟨"RangeGravesModel", "keysOf", "(II)I"⟩, 17) := ⟨⟨by decide +kernel, by decide +kernel⟩, List.mem_of_getElem? (i := 898) (by decide +kernel), List.mem_of_getElem? (i := 1157) (by decide +kernel), List.mem_of_getElem? (i := 1158) (by decide +kernel)⟩
theorem lw_p50 : lw_okq (⟨"RangeGravesModel", "remember", "()V"⟩, 17) := ⟨⟨by decide +kernel, by decide +kernel⟩, List.mem_of_getElem? (i := 898) (by decide +kernel), List.mem_of_getElem? (i := 1173) (by decide +kernel), List.mem_of_getElem? (i := 1174) (by decide +kernel)⟩
theorem lw_p51 : lw_okq (⟨"RangeGravesModel", "lookedAt", "(I)I"⟩, 17) := ⟨⟨by decide +kernel, by decide +kernel⟩, List.mem_of_getElem? (i := 898) (by decide +kernel), List.mem_of_getElem? (i := 1205) (by decide +kernel), List.mem_of_getElem? (i := 1206) (by decide +kernel)⟩
theorem lw_p52 : lw_okq (⟨"RangeGravesModel", "isIn", "(II)Z"⟩, 17) := ⟨⟨by decide +kernel, by decide +kernel⟩, List.mem_of_getElem? (i := 898) (by decide +kernel), List.mem_of_getElem? (i := 1209) (by decide +kernel), List.mem_of_getElem? (i := 1210) (by decide +kernel)⟩
theorem lw_p53 : lw_okq (⟨"RangeGravesModel", "nextSeen", "(II)I"⟩, 17) := ⟨⟨by decide +kernel, by decide +kernel⟩, List.mem_of_getElem? (i := 898) (by decide +kernel), List.mem_of_getElem? (i := 1217) (by decide +kernel), List.mem_of_getElem? (i := 1218) (by decide +kernel)⟩
theorem lw_p54 : lw_okq (⟨"RangeGravesModel", "newestGrave", "(I)I"⟩, 17) := ⟨⟨by decide +kernel, by decide +kernel⟩, List.mem_of_getElem? (i := 898) (by decide +kernel), List.mem_of_getElem? (i := 1233) (by decide +kernel), List.mem_of_getElem? (i := 1234) (by decide +kernel)⟩
theorem lw_p55 : lw_okq (⟨"RangeGravesModel", "savedBy", "(I)I"⟩, 17) := ⟨⟨by decide +kernel, by decide +kernel⟩, List.mem_of_getElem? (i := 898) (by decide +kernel), List.mem_of_getElem? (i := 1241) (by decide +kernel), List.mem_of_getElem? (i := 1242) (by decide +kernel)⟩
theorem lw_p56 : lw_okq (⟨"RangeGravesModel", "ran", "(IJ)I"⟩, 17) := ⟨⟨by decide +kernel, by decide +kernel⟩, List.mem_of_getElem? (i := 898) (by decide +kernel), List.mem_of_getElem? (i := 1260) (by decide +kernel), List.mem_of_getElem? (i := 1261) (by decide +kernel)⟩
theorem lw_p57 : lw_okq (⟨"RangeGravesModel", "putAside", "()V"⟩, 17) := ⟨⟨by decide +kernel, by decide +kernel⟩, List.mem_of_getElem? (i := 898) (by decide +kernel), List.mem_of_getElem? (i := 1266) (by decide +kernel), List.mem_of_getElem? (i := 1267) (by decide +kernel)⟩
theorem lw_p58 : lw_okq (⟨"RangeGravesModel", "doesWell", "(II)Z"⟩, 17) := ⟨⟨by decide +kernel, by decide +kernel⟩, List.mem_of_getElem? (i := 898) (by decide +kernel), List.mem_of_getElem? (i := 1270) (by decide +kernel), List.mem_of_getElem? (i := 1271) (by decide +kernel)⟩
theorem lw_p59 : lw_okq (⟨"RangeGravesModel", "putBack", "()V"⟩, 17) := ⟨⟨by decide +kernel, by decide +kernel⟩, List.mem_of_getElem? (i := 898) (by decide +kernel), List.mem_of_getElem? (i := 1274) (by decide +kernel), List.mem_of_getElem? (i := 1275) (by decide +kernel)⟩
theorem lw_p60 : lw_okq (⟨"RangeGravesModel", "simulated", "(JI)I"⟩, 17) := ⟨⟨by decide +kernel, by decide +kernel⟩, List.mem_of_getElem? (i := 898) (by decide +kernel), List.mem_of_getElem? (i := 1282) (by decide +kernel), List.mem_of_getElem? (i := 1283) (by decide +kernel)⟩
theorem lw_p61 : lw_okq (⟨"RangeGravesModel", "turn", "(I)V"⟩, 17) := ⟨⟨by decide +kernel, by decide +kernel⟩, List.mem_of_getElem? (i := 898) (by decide +kernel), List.mem_of_getElem? (i := 1288) (by decide +kernel), List.mem_of_getElem? (i := 1289) (by decide +kernel)⟩
def lw_privs_4 : List (MethodName × Nat) := [(⟨"RangeGravesModel", "manyIn", "(I)I"⟩, 17), (⟨"RangeGravesModel", "keysOf", "(II)I"⟩, 17), (⟨"RangeGravesModel", "remember", "()V"⟩, 17), (⟨"RangeGravesModel", "lookedAt", "(I)I"⟩, 17), (⟨"RangeGravesModel", "isIn", "(II)Z"⟩, 17), (⟨"RangeGravesModel", "nextSeen", "(II)I"⟩, 17), (⟨"RangeGravesModel", "newestGrave", "(I)I"⟩, 17), (⟨"RangeGravesModel", "savedBy", "(I)I"⟩, 17), (⟨"RangeGravesModel", "ran", "(IJ)I"⟩, 17), (⟨"RangeGravesModel", "putAside", "()V"⟩, 17), (⟨"RangeGravesModel", "doesWell", "(II)Z"⟩, 17), (⟨"RangeGravesModel", "putBack", "()V"⟩, 17), (⟨"RangeGravesModel", "simulated", "(JI)I"⟩, 17), (⟨"RangeGravesModel", "turn", "(I)V"⟩, 17)]
theorem lw_r4 : ∀ q ∈ lw_privs_4, lw_okq q := List.forall_mem_cons.mpr ⟨lw_p48, List.forall_mem_cons.mpr ⟨lw_p49, List.forall_mem_cons.mpr ⟨lw_p50, List.forall_mem_cons.mpr ⟨lw_p51, List.forall_mem_cons.mpr ⟨lw_p52, List.forall_mem_cons.mpr ⟨lw_p53, List.forall_mem_cons.mpr ⟨lw_p54, List.forall_mem_cons.mpr ⟨lw_p55, List.forall_mem_cons.mpr ⟨lw_p56, List.forall_mem_cons.mpr ⟨lw_p57, List.forall_mem_cons.mpr ⟨lw_p58, List.forall_mem_cons.mpr ⟨lw_p59, List.forall_mem_cons.mpr ⟨lw_p60, List.forall_mem_cons.mpr ⟨lw_p61, fun _ h => absurd h List.not_mem_nil⟩⟩⟩⟩⟩⟩⟩⟩⟩⟩⟩⟩⟩⟩
def lw_privs : List (MethodName × Nat) := lw_privs_1 ++ (lw_privs_2 ++ (lw_privs_3 ++ (lw_privs_4)))
def lw_tbl : List Cond := k2_sels lw_privs ++ tables_1
theorem lw_privs_ok : ∀ q ∈ lw_privs, lw_okq q := by
  show ∀ q ∈ lw_privs_1 ++ (lw_privs_2 ++ (lw_privs_3 ++ (lw_privs_4))), lw_okq q
  exact List.forall_mem_append.mpr ⟨lw_r1, List.forall_mem_append.mpr ⟨lw_r2, List.forall_mem_append.mpr ⟨lw_r3, lw_r4⟩⟩⟩
end
section
def RX0 : String := "RangeGraves$Cleaner"
def TX0 : u_T := fun k => match k with
  | 0 => ("RangeGraves$Cleaner", "result", "LRangeGraves$Writes;", true)
  | 1 => ("RangeGraves$Cleaner", "left", "[LRangeGraves$Keys;", true)
  | 2 => ("RangeGraves$Cleaner", "newerWrites", "LRangeGraves$Keys;", true)
  | 3 => ("RangeGraves$Cleaner", "newerGraves", "LRangeGraves$Keys;", true)
  | _ => ("RangeGraves$Cleaner", "olderEntries", "LRangeGraves$Keys;", true)
def tyX0 : Nat → FieldType := fun k => match k with
  | 0 => .object "RangeGraves$Writes"
  | 1 => .array (.object "RangeGraves$Keys")
  | 2 => .object "RangeGraves$Keys"
  | 3 => .object "RangeGraves$Keys"
  | _ => .object "RangeGraves$Keys"
abbrev wsX00 : List Cond := u_ws RX0 TX0 5
theorem nmX0 : ∀ a, a < 5 → ∀ b, b < 5 → a ≠ b → (TX0 a).2.1 ≠ (TX0 b).2.1 := by decide +kernel
theorem tyX0_ok : ∀ k, k < 5 → parseFieldDescriptor (TX0 k).2.2.1 = some (tyX0 k) := by decide +kernel
abbrev cX0_init : ByteArray := prog_2_method_1_code
def yX0_init : MethodName := ⟨RX0, "<init>", "()V"⟩
abbrev cX0_clean : ByteArray := prog_2_method_2_code
def yX0_clean : MethodName := ⟨RX0, "clean", "(LRangeGraves$Store;II)I"⟩
abbrev cX0_dropHidden : ByteArray := prog_2_method_3_code
def yX0_dropHidden : MethodName := ⟨RX0, "dropHidden", "(LRangeGraves$Store;II)V"⟩
abbrev cX0_dropNeedless : ByteArray := prog_2_method_4_code
def yX0_dropNeedless : MethodName := ⟨RX0, "dropNeedless", "(LRangeGraves$Writes;II)V"⟩
abbrev cX0_addRows : ByteArray := prog_2_method_5_code
def yX0_addRows : MethodName := ⟨RX0, "addRows", "(LRangeGraves$Writes;I)V"⟩
def RX1 : String := "RangeGraves$History"
def TX1 : u_T := fun k => match k with
  | 0 => ("RangeGraves$History", "states", "[LRangeGraves$Store;", true)
  | 1 => ("RangeGraves$History", "oldest", "I", false)
  | _ => ("RangeGraves$History", "size", "I", false)
def tyX1 : Nat → FieldType := fun k => match k with
  | 0 => .array (.object "RangeGraves$Store")
  | 1 => .int
  | _ => .int
abbrev wsX10 : List Cond := u_ws RX1 TX1 3
theorem nmX1 : ∀ a, a < 3 → ∀ b, b < 3 → a ≠ b → (TX1 a).2.1 ≠ (TX1 b).2.1 := by decide +kernel
theorem tyX1_ok : ∀ k, k < 3 → parseFieldDescriptor (TX1 k).2.2.1 = some (tyX1 k) := by decide +kernel
abbrev cX1_init : ByteArray := prog_3_method_1_code
def yX1_init : MethodName := ⟨RX1, "<init>", "(LRangeGraves$Cleaner;)V"⟩
abbrev cX1_size : ByteArray := prog_3_method_2_code
def yX1_size : MethodName := ⟨RX1, "size", "()I"⟩
abbrev cX1_forgetAll : ByteArray := prog_3_method_3_code
def yX1_forgetAll : MethodName := ⟨RX1, "forgetAll", "()V"⟩
abbrev cX1_remember : ByteArray := prog_3_method_4_code
def yX1_remember : MethodName := ⟨RX1, "remember", "(LRangeGraves$Store;)V"⟩
abbrev cX1_takeBack : ByteArray := prog_3_method_5_code
def yX1_takeBack : MethodName := ⟨RX1, "takeBack", "(LRangeGraves$Store;)V"⟩
def RX2 : String := "RangeGraves$Keys"
def TX2 : u_T := fun k => match k with
  | 0 => ("RangeGraves$Keys", "low", "J", false)
  | _ => ("RangeGraves$Keys", "high", "J", false)
def tyX2 : Nat → FieldType := fun k => match k with
  | 0 => .long
  | _ => .long
abbrev wsX20 : List Cond := u_ws RX2 TX2 2
theorem nmX2 : ∀ a, a < 2 → ∀ b, b < 2 → a ≠ b → (TX2 a).2.1 ≠ (TX2 b).2.1 := by decide +kernel
theorem tyX2_ok : ∀ k, k < 2 → parseFieldDescriptor (TX2 k).2.2.1 = some (tyX2 k) := by decide +kernel
abbrev cX2_init : ByteArray := prog_4_method_1_code
def yX2_init : MethodName := ⟨RX2, "<init>", "()V"⟩
abbrev cX2_empty : ByteArray := prog_4_method_2_code
def yX2_empty : MethodName := ⟨RX2, "empty", "()V"⟩
abbrev cX2_addRow : ByteArray := prog_4_method_3_code
def yX2_addRow : MethodName := ⟨RX2, "addRow", "(II)V"⟩
abbrev cX2_addAll : ByteArray := prog_4_method_4_code
def yX2_addAll : MethodName := ⟨RX2, "addAll", "(LRangeGraves$Keys;)V"⟩
abbrev cX2_removeAll : ByteArray := prog_4_method_5_code
def yX2_removeAll : MethodName := ⟨RX2, "removeAll", "(LRangeGraves$Keys;)V"⟩
abbrev cX2_keepOnly : ByteArray := prog_4_method_6_code
def yX2_keepOnly : MethodName := ⟨RX2, "keepOnly", "(LRangeGraves$Keys;)V"⟩
abbrev cX2_has : ByteArray := prog_4_method_7_code
def yX2_has : MethodName := ⟨RX2, "has", "(I)Z"⟩
abbrev cX2_size : ByteArray := prog_4_method_8_code
def yX2_size : MethodName := ⟨RX2, "size", "()I"⟩
def RX3 : String := "RangeGraves$Store"
def TX3 : u_T := fun k => match k with
  | 0 => ("RangeGraves$Store", "cleaner", "LRangeGraves$Cleaner;", true)
  | 1 => ("RangeGraves$Store", "writes", "LRangeGraves$Writes;", true)
  | 2 => ("RangeGraves$Store", "ends", "[I", true)
  | 3 => ("RangeGraves$Store", "eyeNumbers", "[I", true)
  | 4 => ("RangeGraves$Store", "runs", "I", false)
  | 5 => ("RangeGraves$Store", "eyes", "I", false)
  | 6 => ("RangeGraves$Store", "latest", "I", false)
  | _ => ("RangeGraves$Store", "fewer", "I", false)
def tyX3 : Nat → FieldType := fun k => match k with
  | 0 => .object "RangeGraves$Cleaner"
  | 1 => .object "RangeGraves$Writes"
  | 2 => .array .int
  | 3 => .array .int
  | 4 => .int
  | 5 => .int
  | 6 => .int
  | _ => .int
abbrev wsX30 : List Cond := u_ws RX3 TX3 8
theorem nmX3 : ∀ a, a < 8 → ∀ b, b < 8 → a ≠ b → (TX3 a).2.1 ≠ (TX3 b).2.1 := by decide +kernel
theorem tyX3_ok : ∀ k, k < 8 → parseFieldDescriptor (TX3 k).2.2.1 = some (tyX3 k) := by decide +kernel
abbrev cX3_init : ByteArray := prog_5_method_1_code
def yX3_init : MethodName := ⟨RX3, "<init>", "(LRangeGraves$Cleaner;I)V"⟩
abbrev cX3_empty : ByteArray := prog_5_method_2_code
def yX3_empty : MethodName := ⟨RX3, "empty", "()V"⟩
abbrev cX3_become : ByteArray := prog_5_method_3_code
def yX3_become : MethodName := ⟨RX3, "become", "(LRangeGraves$Store;)V"⟩
abbrev cX3_size : ByteArray := prog_5_method_4_code
def yX3_size : MethodName := ⟨RX3, "size", "()I"⟩
abbrev cX3_isFull : ByteArray := prog_5_method_5_code
def yX3_isFull : MethodName := ⟨RX3, "isFull", "()Z"⟩
abbrev cX3_runs : ByteArray := prog_5_method_6_code
def yX3_runs : MethodName := ⟨RX3, "runs", "()I"⟩
abbrev cX3_eyes : ByteArray := prog_5_method_7_code
def yX3_eyes : MethodName := ⟨RX3, "eyes", "()I"⟩
abbrev cX3_latest : ByteArray := prog_5_method_8_code
def yX3_latest : MethodName := ⟨RX3, "latest", "()I"⟩
abbrev cX3_fewer : ByteArray := prog_5_method_9_code
def yX3_fewer : MethodName := ⟨RX3, "fewer", "()I"⟩
abbrev cX3_isRun : ByteArray := prog_5_method_10_code
def yX3_isRun : MethodName := ⟨RX3, "isRun", "(I)Z"⟩
abbrev cX3_isPlace : ByteArray := prog_5_method_11_code
def yX3_isPlace : MethodName := ⟨RX3, "isPlace", "(I)Z"⟩
abbrev cX3_startOf : ByteArray := prog_5_method_12_code
def yX3_startOf : MethodName := ⟨RX3, "startOf", "(I)I"⟩
abbrev cX3_endOf : ByteArray := prog_5_method_13_code
def yX3_endOf : MethodName := ⟨RX3, "endOf", "(I)I"⟩
abbrev cX3_sizeOf : ByteArray := prog_5_method_14_code
def yX3_sizeOf : MethodName := ⟨RX3, "sizeOf", "(I)I"⟩
abbrev cX3_entriesIn : ByteArray := prog_5_method_15_code
def yX3_entriesIn : MethodName := ⟨RX3, "entriesIn", "(II)I"⟩
abbrev cX3_keysIn : ByteArray := prog_5_method_16_code
def yX3_keysIn : MethodName := ⟨RX3, "keysIn", "(I)I"⟩
abbrev cX3_isEye : ByteArray := prog_5_method_17_code
def yX3_isEye : MethodName := ⟨RX3, "isEye", "(I)Z"⟩
abbrev cX3_isView : ByteArray := prog_5_method_18_code
def yX3_isView : MethodName := ⟨RX3, "isView", "(I)Z"⟩
abbrev cX3_limitOf : ByteArray := prog_5_method_19_code
def yX3_limitOf : MethodName := ⟨RX3, "limitOf", "(I)I"⟩
abbrev cX3_eyesBefore : ByteArray := prog_5_method_20_code
def yX3_eyesBefore : MethodName := ⟨RX3, "eyesBefore", "(I)I"⟩
abbrev cX3_newestFor : ByteArray := prog_5_method_21_code
def yX3_newestFor : MethodName := ⟨RX3, "newestFor", "(II)I"⟩
abbrev cX3_valueFor : ByteArray := prog_5_method_22_code
def yX3_valueFor : MethodName := ⟨RX3, "valueFor", "(II)I"⟩
abbrev cX3_isSeen : ByteArray := prog_5_method_23_code
def yX3_isSeen : MethodName := ⟨RX3, "isSeen", "(I)Z"⟩
abbrev cX3_canOpen : ByteArray := prog_5_method_24_code
def yX3_canOpen : MethodName := ⟨RX3, "canOpen", "()Z"⟩
abbrev cX3_canFlush : ByteArray := prog_5_method_25_code
def yX3_canFlush : MethodName := ⟨RX3, "canFlush", "()Z"⟩
abbrev cX3_canMerge : ByteArray := prog_5_method_26_code
def yX3_canMerge : MethodName := ⟨RX3, "canMerge", "(I)Z"⟩
abbrev cX3_savedBy : ByteArray := prog_5_method_27_code
def yX3_savedBy : MethodName := ⟨RX3, "savedBy", "(I)I"⟩
abbrev cX3_addWrite : ByteArray := prog_5_method_28_code
def yX3_addWrite : MethodName := ⟨RX3, "addWrite", "(III)V"⟩
abbrev cX3_addEye : ByteArray := prog_5_method_29_code
def yX3_addEye : MethodName := ⟨RX3, "addEye", "()V"⟩
abbrev cX3_dropEye : ByteArray := prog_5_method_30_code
def yX3_dropEye : MethodName := ⟨RX3, "dropEye", "(I)V"⟩
abbrev cX3_dropAllEyes : ByteArray := prog_5_method_31_code
def yX3_dropAllEyes : MethodName := ⟨RX3, "dropAllEyes", "()V"⟩
abbrev cX3_flushMemory : ByteArray := prog_5_method_32_code
def yX3_flushMemory : MethodName := ⟨RX3, "flushMemory", "()I"⟩
abbrev cX3_mergeRuns : ByteArray := prog_5_method_33_code
def yX3_mergeRuns : MethodName := ⟨RX3, "mergeRuns", "(I)I"⟩
abbrev cX3_tryPut : ByteArray := prog_5_method_34_code
def yX3_tryPut : MethodName := ⟨RX3, "tryPut", "(II)Z"⟩
abbrev cX3_tryBury : ByteArray := prog_5_method_35_code
def yX3_tryBury : MethodName := ⟨RX3, "tryBury", "(II)Z"⟩
abbrev cX3_tryOpen : ByteArray := prog_5_method_36_code
def yX3_tryOpen : MethodName := ⟨RX3, "tryOpen", "()Z"⟩
abbrev cX3_tryClose : ByteArray := prog_5_method_37_code
def yX3_tryClose : MethodName := ⟨RX3, "tryClose", "(I)Z"⟩
abbrev cX3_tryFlush : ByteArray := prog_5_method_38_code
def yX3_tryFlush : MethodName := ⟨RX3, "tryFlush", "()Z"⟩
abbrev cX3_tryMerge : ByteArray := prog_5_method_39_code
def yX3_tryMerge : MethodName := ⟨RX3, "tryMerge", "(I)Z"⟩
def RX4 : String := "RangeGraves$Text"
def TX4 : u_T := fun k => match k with
  | 0 => ("RangeGraves$Text", "signs", "[I", true)
  | _ => ("RangeGraves$Text", "length", "I", false)
def tyX4 : Nat → FieldType := fun k => match k with
  | 0 => .array .int
  | _ => .int
abbrev wsX40 : List Cond := u_ws RX4 TX4 2
theorem nmX4 : ∀ a, a < 2 → ∀ b, b < 2 → a ≠ b → (TX4 a).2.1 ≠ (TX4 b).2.1 := by decide +kernel
theorem tyX4_ok : ∀ k, k < 2 → parseFieldDescriptor (TX4 k).2.2.1 = some (tyX4 k) := by decide +kernel
abbrev cX4_init : ByteArray := prog_6_method_1_code
def yX4_init : MethodName := ⟨RX4, "<init>", "()V"⟩
abbrev cX4_length : ByteArray := prog_6_method_2_code
def yX4_length : MethodName := ⟨RX4, "length", "()I"⟩
abbrev cX4_isFull : ByteArray := prog_6_method_3_code
def yX4_isFull : MethodName := ⟨RX4, "isFull", "()Z"⟩
abbrev cX4_addSign : ByteArray := prog_6_method_4_code
def yX4_addSign : MethodName := ⟨RX4, "addSign", "(I)V"⟩
abbrev cX4_empty : ByteArray := prog_6_method_5_code
def yX4_empty : MethodName := ⟨RX4, "empty", "()V"⟩
abbrev cX4_signAt : ByteArray := prog_6_method_6_code
def yX4_signAt : MethodName := ⟨RX4, "signAt", "(I)I"⟩
abbrev cX4_isDigit : ByteArray := prog_6_method_7_code
def yX4_isDigit : MethodName := ⟨RX4, "isDigit", "(I)Z"⟩
abbrev cX4_digitsAt : ByteArray := prog_6_method_8_code
def yX4_digitsAt : MethodName := ⟨RX4, "digitsAt", "(II)I"⟩
abbrev cX4_firstError : ByteArray := prog_6_method_9_code
def yX4_firstError : MethodName := ⟨RX4, "firstError", "()I"⟩
abbrev cX4_digitsOf : ByteArray := prog_6_method_10_code
def yX4_digitsOf : MethodName := ⟨RX4, "digitsOf", "(I)I"⟩
abbrev cX4_digitFits : ByteArray := prog_6_method_11_code
def yX4_digitFits : MethodName := ⟨RX4, "digitFits", "(II)Z"⟩
def RX5 : String := "RangeGraves$View"
def TX5 : u_T := fun k => match k with
  | _ => ("RangeGraves$View", "seen", "[I", true)
def tyX5 : Nat → FieldType := fun k => match k with
  | _ => .array .int
abbrev wsX50 : List Cond := u_ws RX5 TX5 1
theorem nmX5 : ∀ a, a < 1 → ∀ b, b < 1 → a ≠ b → (TX5 a).2.1 ≠ (TX5 b).2.1 := by decide +kernel
theorem tyX5_ok : ∀ k, k < 1 → parseFieldDescriptor (TX5 k).2.2.1 = some (tyX5 k) := by decide +kernel
abbrev cX5_init : ByteArray := prog_7_method_1_code
def yX5_init : MethodName := ⟨RX5, "<init>", "()V"⟩
abbrev cX5_look : ByteArray := prog_7_method_2_code
def yX5_look : MethodName := ⟨RX5, "look", "(LRangeGraves$Store;I)V"⟩
abbrev cX5_sum : ByteArray := prog_7_method_3_code
def yX5_sum : MethodName := ⟨RX5, "sum", "()I"⟩
abbrev cX5_seenIn : ByteArray := prog_7_method_4_code
def yX5_seenIn : MethodName := ⟨RX5, "seenIn", "(II)I"⟩
abbrev cX5_firstSeen : ByteArray := prog_7_method_5_code
def yX5_firstSeen : MethodName := ⟨RX5, "firstSeen", "(I)I"⟩
def RX6 : String := "RangeGraves$Writes"
def TX6 : u_T := fun k => match k with
  | 0 => ("RangeGraves$Writes", "numbers", "[I", true)
  | 1 => ("RangeGraves$Writes", "firsts", "[I", true)
  | 2 => ("RangeGraves$Writes", "lasts", "[I", true)
  | 3 => ("RangeGraves$Writes", "values", "[I", true)
  | _ => ("RangeGraves$Writes", "size", "I", false)
def tyX6 : Nat → FieldType := fun k => match k with
  | 0 => .array .int
  | 1 => .array .int
  | 2 => .array .int
  | 3 => .array .int
  | _ => .int
abbrev wsX60 : List Cond := u_ws RX6 TX6 5
theorem nmX6 : ∀ a, a < 5 → ∀ b, b < 5 → a ≠ b → (TX6 a).2.1 ≠ (TX6 b).2.1 := by decide +kernel
theorem tyX6_ok : ∀ k, k < 5 → parseFieldDescriptor (TX6 k).2.2.1 = some (tyX6 k) := by decide +kernel
abbrev cX6_init : ByteArray := prog_8_method_1_code
def yX6_init : MethodName := ⟨RX6, "<init>", "(I)V"⟩
abbrev cX6_size : ByteArray := prog_8_method_2_code
def yX6_size : MethodName := ⟨RX6, "size", "()I"⟩
abbrev cX6_empty : ByteArray := prog_8_method_3_code
def yX6_empty : MethodName := ⟨RX6, "empty", "()V"⟩
abbrev cX6_add : ByteArray := prog_8_method_4_code
def yX6_add : MethodName := ⟨RX6, "add", "(IIII)V"⟩
abbrev cX6_numberAt : ByteArray := prog_8_method_5_code
def yX6_numberAt : MethodName := ⟨RX6, "numberAt", "(I)I"⟩
abbrev cX6_firstAt : ByteArray := prog_8_method_6_code
def yX6_firstAt : MethodName := ⟨RX6, "firstAt", "(I)I"⟩
abbrev cX6_lastAt : ByteArray := prog_8_method_7_code
def yX6_lastAt : MethodName := ⟨RX6, "lastAt", "(I)I"⟩
abbrev cX6_valueAt : ByteArray := prog_8_method_8_code
def yX6_valueAt : MethodName := ⟨RX6, "valueAt", "(I)I"⟩
abbrev cX6_isEntry : ByteArray := prog_8_method_9_code
def yX6_isEntry : MethodName := ⟨RX6, "isEntry", "(I)Z"⟩
abbrev cX6_concerns : ByteArray := prog_8_method_10_code
def yX6_concerns : MethodName := ⟨RX6, "concerns", "(II)Z"⟩
abbrev cX6_replace : ByteArray := prog_8_method_11_code
def yX6_replace : MethodName := ⟨RX6, "replace", "(IILRangeGraves$Writes;)V"⟩
def RX7 : String := "RangeGraves"
def TX7 : u_T := fun k => match k with
  | 0 => ("RangeGraves", "text", "LRangeGraves$Text;", true)
  | 1 => ("RangeGraves", "store", "LRangeGraves$Store;", true)
  | 2 => ("RangeGraves", "trial", "LRangeGraves$Store;", true)
  | 3 => ("RangeGraves", "history", "LRangeGraves$History;", true)
  | 4 => ("RangeGraves", "slots", "[LRangeGraves$Store;", true)
  | 5 => ("RangeGraves", "filled", "[Z", true)
  | _ => ("RangeGraves", "view", "LRangeGraves$View;", true)
def tyX7 : Nat → FieldType := fun k => match k with
  | 0 => .object "RangeGraves$Text"
  | 1 => .object "RangeGraves$Store"
  | 2 => .object "RangeGraves$Store"
  | 3 => .object "RangeGraves$History"
  | 4 => .array (.object "RangeGraves$Store")
  | 5 => .array .boolean
  | _ => .object "RangeGraves$View"
abbrev wsX70 : List Cond := u_ws RX7 TX7 7
theorem nmX7 : ∀ a, a < 7 → ∀ b, b < 7 → a ≠ b → (TX7 a).2.1 ≠ (TX7 b).2.1 := by decide +kernel
theorem tyX7_ok : ∀ k, k < 7 → parseFieldDescriptor (TX7 k).2.2.1 = some (tyX7 k) := by decide +kernel
abbrev cX7_init : ByteArray := prog_1_method_1_code
def yX7_init : MethodName := ⟨RX7, "<init>", "()V"⟩
abbrev cX7_append : ByteArray := prog_1_method_2_code
def yX7_append : MethodName := ⟨RX7, "append", "(I)I"⟩
abbrev cX7_clearText : ByteArray := prog_1_method_3_code
def yX7_clearText : MethodName := ⟨RX7, "clearText", "()I"⟩
abbrev cX7_errorPosition : ByteArray := prog_1_method_4_code
def yX7_errorPosition : MethodName := ⟨RX7, "errorPosition", "()I"⟩
abbrev cX7_load : ByteArray := prog_1_method_5_code
def yX7_load : MethodName := ⟨RX7, "load", "()I"⟩
abbrev cX7_about : ByteArray := prog_1_method_6_code
def yX7_about : MethodName := ⟨RX7, "about", "(I)I"⟩
abbrev cX7_get : ByteArray := prog_1_method_7_code
def yX7_get : MethodName := ⟨RX7, "get", "(II)I"⟩
abbrev cX7_run : ByteArray := prog_1_method_8_code
def yX7_run : MethodName := ⟨RX7, "run", "(II)I"⟩
abbrev cX7_write : ByteArray := prog_1_method_9_code
def yX7_write : MethodName := ⟨RX7, "write", "(III)I"⟩
abbrev cX7_eye : ByteArray := prog_1_method_10_code
def yX7_eye : MethodName := ⟨RX7, "eye", "(I)I"⟩
abbrev cX7_put : ByteArray := prog_1_method_11_code
def yX7_put : MethodName := ⟨RX7, "put", "(II)I"⟩
abbrev cX7_bury : ByteArray := prog_1_method_12_code
def yX7_bury : MethodName := ⟨RX7, "bury", "(II)I"⟩
abbrev cX7_open : ByteArray := prog_1_method_13_code
def yX7_open : MethodName := ⟨RX7, "open", "()I"⟩
abbrev cX7_close : ByteArray := prog_1_method_14_code
def yX7_close : MethodName := ⟨RX7, "close", "(I)I"⟩
abbrev cX7_flush : ByteArray := prog_1_method_15_code
def yX7_flush : MethodName := ⟨RX7, "flush", "()I"⟩
abbrev cX7_merge : ByteArray := prog_1_method_16_code
def yX7_merge : MethodName := ⟨RX7, "merge", "(I)I"⟩
abbrev cX7_undo : ByteArray := prog_1_method_17_code
def yX7_undo : MethodName := ⟨RX7, "undo", "()I"⟩
abbrev cX7_looks : ByteArray := prog_1_method_18_code
def yX7_looks : MethodName := ⟨RX7, "looks", "(I)I"⟩
abbrev cX7_next : ByteArray := prog_1_method_19_code
def yX7_next : MethodName := ⟨RX7, "next", "(II)I"⟩
abbrev cX7_count : ByteArray := prog_1_method_20_code
def yX7_count : MethodName := ⟨RX7, "count", "(III)I"⟩
abbrev cX7_hidden : ByteArray := prog_1_method_21_code
def yX7_hidden : MethodName := ⟨RX7, "hidden", "()I"⟩
abbrev cX7_grave : ByteArray := prog_1_method_22_code
def yX7_grave : MethodName := ⟨RX7, "grave", "(I)I"⟩
abbrev cX7_saves : ByteArray := prog_1_method_23_code
def yX7_saves : MethodName := ⟨RX7, "saves", "(I)I"⟩
abbrev cX7_best : ByteArray := prog_1_method_24_code
def yX7_best : MethodName := ⟨RX7, "best", "()I"⟩
abbrev cX7_fewest : ByteArray := prog_1_method_25_code
def yX7_fewest : MethodName := ⟨RX7, "fewest", "()I"⟩
abbrev cX7_runScript : ByteArray := prog_1_method_26_code
def yX7_runScript : MethodName := ⟨RX7, "runScript", "(IJ)I"⟩
abbrev cX7_simulate : ByteArray := prog_1_method_27_code
def yX7_simulate : MethodName := ⟨RX7, "simulate", "(JI)I"⟩
abbrev cX7_save : ByteArray := prog_1_method_28_code
def yX7_save : MethodName := ⟨RX7, "save", "(I)I"⟩
abbrev cX7_restore : ByteArray := prog_1_method_29_code
def yX7_restore : MethodName := ⟨RX7, "restore", "(I)I"⟩
abbrev cX7_isKey : ByteArray := prog_1_method_30_code
def yX7_isKey : MethodName := ⟨RX7, "isKey", "(I)Z"⟩
abbrev cX7_isValue : ByteArray := prog_1_method_31_code
def yX7_isValue : MethodName := ⟨RX7, "isValue", "(I)Z"⟩
abbrev cX7_seenNow : ByteArray := prog_1_method_32_code
def yX7_seenNow : MethodName := ⟨RX7, "seenNow", "(LRangeGraves$Store;)I"⟩
abbrev cX7_doTextCommand : ByteArray := prog_1_method_33_code
def yX7_doTextCommand : MethodName := ⟨RX7, "doTextCommand", "(I)Z"⟩
abbrev cX7_withoutLast : ByteArray := prog_1_method_34_code
def yX7_withoutLast : MethodName := ⟨RX7, "withoutLast", "(IJ)J"⟩
abbrev cX7_doGroup : ByteArray := prog_1_method_35_code
def yX7_doGroup : MethodName := ⟨RX7, "doGroup", "(I)Z"⟩
abbrev cX7_doTurn : ByteArray := prog_1_method_36_code
def yX7_doTurn : MethodName := ⟨RX7, "doTurn", "(I)V"⟩
def RX8 : String := "RangeGravesModel"
def TX8 : u_T := fun k => match k with
  | 0 => ("RangeGravesModel", "thrown", "I", false)
  | 1 => ("RangeGravesModel", "s", "[I", true)
  | 2 => ("RangeGravesModel", "aside", "[I", true)
  | 3 => ("RangeGravesModel", "saved", "[I", true)
  | 4 => ("RangeGravesModel", "savedMany", "I", false)
  | 5 => ("RangeGravesModel", "slots", "[I", true)
  | 6 => ("RangeGravesModel", "isSaved", "[Z", true)
  | 7 => ("RangeGravesModel", "text", "[I", true)
  | 8 => ("RangeGravesModel", "length", "I", false)
  | 9 => ("RangeGravesModel", "left", "[I", true)
  | 10 => ("RangeGravesModel", "leftMany", "I", false)
  | 11 => ("RangeGravesModel", "isDropped", "[Z", true)
  | 12 => ("RangeGravesModel", "at", "I", false)
  | 13 => ("RangeGravesModel", "isWrong", "Z", false)
  | 14 => ("RangeGravesModel", "letter", "I", false)
  | 15 => ("RangeGravesModel", "one", "I", false)
  | _ => ("RangeGravesModel", "two", "I", false)
def tyX8 : Nat → FieldType := fun k => match k with
  | 0 => .int
  | 1 => .array .int
  | 2 => .array .int
  | 3 => .array .int
  | 4 => .int
  | 5 => .array .int
  | 6 => .array .boolean
  | 7 => .array .int
  | 8 => .int
  | 9 => .array .int
  | 10 => .int
  | 11 => .array .boolean
  | 12 => .int
  | 13 => .boolean
  | 14 => .int
  | 15 => .int
  | _ => .int
abbrev wsX80 : List Cond := u_ws RX8 TX8 17
theorem nmX8 : ∀ a, a < 17 → ∀ b, b < 17 → a ≠ b → (TX8 a).2.1 ≠ (TX8 b).2.1 := by decide +kernel
theorem tyX8_ok : ∀ k, k < 17 → parseFieldDescriptor (TX8 k).2.2.1 = some (tyX8 k) := by decide +kernel
abbrev cX8_init : ByteArray := prog_10_method_1_code
def yX8_init : MethodName := ⟨RX8, "<init>", "()V"⟩
abbrev cX8_thrown : ByteArray := prog_10_method_2_code
def yX8_thrown : MethodName := ⟨RX8, "thrown", "()I"⟩
abbrev cX8_in : ByteArray := prog_10_method_3_code
def yX8_in : MethodName := ⟨RX8, "in", "(III)Z"⟩
abbrev cX8_holds : ByteArray := prog_10_method_4_code
def yX8_holds : MethodName := ⟨RX8, "holds", "(I)Z"⟩
abbrev cX8_of : ByteArray := prog_10_method_5_code
def yX8_of : MethodName := ⟨RX8, "of", "(II)I"⟩
abbrev cX8_isKey : ByteArray := prog_10_method_6_code
def yX8_isKey : MethodName := ⟨RX8, "isKey", "(I)Z"⟩
abbrev cX8_isRun : ByteArray := prog_10_method_7_code
def yX8_isRun : MethodName := ⟨RX8, "isRun", "(I)Z"⟩
abbrev cX8_isEye : ByteArray := prog_10_method_8_code
def yX8_isEye : MethodName := ⟨RX8, "isEye", "(I)Z"⟩
abbrev cX8_remember : ByteArray := prog_10_method_9_code
def yX8_remember : MethodName := ⟨RX8, "remember", "()V"⟩
abbrev cX8_putAside : ByteArray := prog_10_method_10_code
def yX8_putAside : MethodName := ⟨RX8, "putAside", "()V"⟩
abbrev cX8_putBack : ByteArray := prog_10_method_11_code
def yX8_putBack : MethodName := ⟨RX8, "putBack", "()V"⟩
abbrev cX8_begin : ByteArray := prog_10_method_12_code
def yX8_begin : MethodName := ⟨RX8, "begin", "(I)I"⟩
abbrev cX8_manyIn : ByteArray := prog_10_method_13_code
def yX8_manyIn : MethodName := ⟨RX8, "manyIn", "(I)I"⟩
abbrev cX8_all : ByteArray := prog_10_method_14_code
def yX8_all : MethodName := ⟨RX8, "all", "()I"⟩
abbrev cX8_concerns : ByteArray := prog_10_method_15_code
def yX8_concerns : MethodName := ⟨RX8, "concerns", "(II)Z"⟩
abbrev cX8_isEntry : ByteArray := prog_10_method_16_code
def yX8_isEntry : MethodName := ⟨RX8, "isEntry", "(I)Z"⟩
abbrev cX8_newest : ByteArray := prog_10_method_17_code
def yX8_newest : MethodName := ⟨RX8, "newest", "(II)I"⟩
abbrev cX8_upTo : ByteArray := prog_10_method_18_code
def yX8_upTo : MethodName := ⟨RX8, "upTo", "(I)I"⟩
abbrev cX8_seen : ByteArray := prog_10_method_19_code
def yX8_seen : MethodName := ⟨RX8, "seen", "(II)I"⟩
abbrev cX8_countSeen : ByteArray := prog_10_method_20_code
def yX8_countSeen : MethodName := ⟨RX8, "countSeen", "(III)I"⟩
abbrev cX8_areParted : ByteArray := prog_10_method_21_code
def yX8_areParted : MethodName := ⟨RX8, "areParted", "(II)Z"⟩
abbrev cX8_isCovered : ByteArray := prog_10_method_22_code
def yX8_isCovered : MethodName := ⟨RX8, "isCovered", "(IIIIZ)Z"⟩
abbrev cX8_hasOlderEntry : ByteArray := prog_10_method_23_code
def yX8_hasOlderEntry : MethodName := ⟨RX8, "hasOlderEntry", "(IIII)Z"⟩
abbrev cX8_leave : ByteArray := prog_10_method_24_code
def yX8_leave : MethodName := ⟨RX8, "leave", "(III)V"⟩
abbrev cX8_clean : ByteArray := prog_10_method_25_code
def yX8_clean : MethodName := ⟨RX8, "clean", "(IIZ)V"⟩
abbrev cX8_cut : ByteArray := prog_10_method_26_code
def yX8_cut : MethodName := ⟨RX8, "cut", "(IIIZ)V"⟩
abbrev cX8_replace : ByteArray := prog_10_method_27_code
def yX8_replace : MethodName := ⟨RX8, "replace", "(II)V"⟩
abbrev cX8_isRoomFor : ByteArray := prog_10_method_28_code
def yX8_isRoomFor : MethodName := ⟨RX8, "isRoomFor", "(II)Z"⟩
abbrev cX8_putFault : ByteArray := prog_10_method_29_code
def yX8_putFault : MethodName := ⟨RX8, "putFault", "(II)I"⟩
abbrev cX8_writes : ByteArray := prog_10_method_30_code
def yX8_writes : MethodName := ⟨RX8, "writes", "(III)I"⟩
abbrev cX8_buryFault : ByteArray := prog_10_method_31_code
def yX8_buryFault : MethodName := ⟨RX8, "buryFault", "(II)I"⟩
abbrev cX8_buries : ByteArray := prog_10_method_32_code
def yX8_buries : MethodName := ⟨RX8, "buries", "(II)I"⟩
abbrev cX8_opens : ByteArray := prog_10_method_33_code
def yX8_opens : MethodName := ⟨RX8, "opens", "()I"⟩
abbrev cX8_closes : ByteArray := prog_10_method_34_code
def yX8_closes : MethodName := ⟨RX8, "closes", "(I)I"⟩
abbrev cX8_flushFault : ByteArray := prog_10_method_35_code
def yX8_flushFault : MethodName := ⟨RX8, "flushFault", "()I"⟩
abbrev cX8_flushes : ByteArray := prog_10_method_36_code
def yX8_flushes : MethodName := ⟨RX8, "flushes", "()I"⟩
abbrev cX8_mergeFault : ByteArray := prog_10_method_37_code
def yX8_mergeFault : MethodName := ⟨RX8, "mergeFault", "(I)I"⟩
abbrev cX8_merges : ByteArray := prog_10_method_38_code
def yX8_merges : MethodName := ⟨RX8, "merges", "(I)I"⟩
abbrev cX8_append : ByteArray := prog_10_method_39_code
def yX8_append : MethodName := ⟨RX8, "append", "(I)I"⟩
abbrev cX8_clearText : ByteArray := prog_10_method_40_code
def yX8_clearText : MethodName := ⟨RX8, "clearText", "()I"⟩
abbrev cX8_sign : ByteArray := prog_10_method_41_code
def yX8_sign : MethodName := ⟨RX8, "sign", "(II)I"⟩
abbrev cX8_key : ByteArray := prog_10_method_42_code
def yX8_key : MethodName := ⟨RX8, "key", "()I"⟩
abbrev cX8_command : ByteArray := prog_10_method_43_code
def yX8_command : MethodName := ⟨RX8, "command", "()V"⟩
abbrev cX8_does : ByteArray := prog_10_method_44_code
def yX8_does : MethodName := ⟨RX8, "does", "()Z"⟩
abbrev cX8_go : ByteArray := prog_10_method_45_code
def yX8_go : MethodName := ⟨RX8, "go", "(Z)I"⟩
abbrev cX8_errorPosition : ByteArray := prog_10_method_46_code
def yX8_errorPosition : MethodName := ⟨RX8, "errorPosition", "()I"⟩
abbrev cX8_load : ByteArray := prog_10_method_47_code
def yX8_load : MethodName := ⟨RX8, "load", "()I"⟩
abbrev cX8_sumSeen : ByteArray := prog_10_method_48_code
def yX8_sumSeen : MethodName := ⟨RX8, "sumSeen", "()I"⟩
abbrev cX8_kinds : ByteArray := prog_10_method_49_code
def yX8_kinds : MethodName := ⟨RX8, "kinds", "(IIZ)I"⟩
abbrev cX8_told : ByteArray := prog_10_method_50_code
def yX8_told : MethodName := ⟨RX8, "told", "(I)I"⟩
abbrev cX8_about : ByteArray := prog_10_method_51_code
def yX8_about : MethodName := ⟨RX8, "about", "(I)I"⟩
abbrev cX8_isView : ByteArray := prog_10_method_52_code
def yX8_isView : MethodName := ⟨RX8, "isView", "(I)Z"⟩
abbrev cX8_get : ByteArray := prog_10_method_53_code
def yX8_get : MethodName := ⟨RX8, "get", "(II)I"⟩
abbrev cX8_keysOf : ByteArray := prog_10_method_54_code
def yX8_keysOf : MethodName := ⟨RX8, "keysOf", "(II)I"⟩
abbrev cX8_ofRun : ByteArray := prog_10_method_55_code
def yX8_ofRun : MethodName := ⟨RX8, "ofRun", "(II)I"⟩
abbrev cX8_run : ByteArray := prog_10_method_56_code
def yX8_run : MethodName := ⟨RX8, "run", "(II)I"⟩
abbrev cX8_write : ByteArray := prog_10_method_57_code
def yX8_write : MethodName := ⟨RX8, "write", "(III)I"⟩
abbrev cX8_eye : ByteArray := prog_10_method_58_code
def yX8_eye : MethodName := ⟨RX8, "eye", "(I)I"⟩
abbrev cX8_put : ByteArray := prog_10_method_59_code
def yX8_put : MethodName := ⟨RX8, "put", "(II)I"⟩
abbrev cX8_bury : ByteArray := prog_10_method_60_code
def yX8_bury : MethodName := ⟨RX8, "bury", "(II)I"⟩
abbrev cX8_open : ByteArray := prog_10_method_61_code
def yX8_open : MethodName := ⟨RX8, "open", "()I"⟩
abbrev cX8_close : ByteArray := prog_10_method_62_code
def yX8_close : MethodName := ⟨RX8, "close", "(I)I"⟩
abbrev cX8_flush : ByteArray := prog_10_method_63_code
def yX8_flush : MethodName := ⟨RX8, "flush", "()I"⟩
abbrev cX8_merge : ByteArray := prog_10_method_64_code
def yX8_merge : MethodName := ⟨RX8, "merge", "(I)I"⟩
abbrev cX8_undo : ByteArray := prog_10_method_65_code
def yX8_undo : MethodName := ⟨RX8, "undo", "()I"⟩
abbrev cX8_isIn : ByteArray := prog_10_method_66_code
def yX8_isIn : MethodName := ⟨RX8, "isIn", "(II)Z"⟩
abbrev cX8_lookedAt : ByteArray := prog_10_method_67_code
def yX8_lookedAt : MethodName := ⟨RX8, "lookedAt", "(I)I"⟩
abbrev cX8_looks : ByteArray := prog_10_method_68_code
def yX8_looks : MethodName := ⟨RX8, "looks", "(I)I"⟩
abbrev cX8_nextSeen : ByteArray := prog_10_method_69_code
def yX8_nextSeen : MethodName := ⟨RX8, "nextSeen", "(II)I"⟩
abbrev cX8_next : ByteArray := prog_10_method_70_code
def yX8_next : MethodName := ⟨RX8, "next", "(II)I"⟩
abbrev cX8_count : ByteArray := prog_10_method_71_code
def yX8_count : MethodName := ⟨RX8, "count", "(III)I"⟩
abbrev cX8_hidden : ByteArray := prog_10_method_72_code
def yX8_hidden : MethodName := ⟨RX8, "hidden", "()I"⟩
abbrev cX8_newestGrave : ByteArray := prog_10_method_73_code
def yX8_newestGrave : MethodName := ⟨RX8, "newestGrave", "(I)I"⟩
abbrev cX8_grave : ByteArray := prog_10_method_74_code
def yX8_grave : MethodName := ⟨RX8, "grave", "(I)I"⟩
abbrev cX8_savedBy : ByteArray := prog_10_method_75_code
def yX8_savedBy : MethodName := ⟨RX8, "savedBy", "(I)I"⟩
abbrev cX8_saves : ByteArray := prog_10_method_76_code
def yX8_saves : MethodName := ⟨RX8, "saves", "(I)I"⟩
abbrev cX8_best : ByteArray := prog_10_method_77_code
def yX8_best : MethodName := ⟨RX8, "best", "()I"⟩
abbrev cX8_fewest : ByteArray := prog_10_method_78_code
def yX8_fewest : MethodName := ⟨RX8, "fewest", "()I"⟩
abbrev cX8_doesWell : ByteArray := prog_10_method_79_code
def yX8_doesWell : MethodName := ⟨RX8, "doesWell", "(II)Z"⟩
abbrev cX8_ran : ByteArray := prog_10_method_80_code
def yX8_ran : MethodName := ⟨RX8, "ran", "(IJ)I"⟩
abbrev cX8_runScript : ByteArray := prog_10_method_81_code
def yX8_runScript : MethodName := ⟨RX8, "runScript", "(IJ)I"⟩
abbrev cX8_turn : ByteArray := prog_10_method_82_code
def yX8_turn : MethodName := ⟨RX8, "turn", "(I)V"⟩
abbrev cX8_simulated : ByteArray := prog_10_method_83_code
def yX8_simulated : MethodName := ⟨RX8, "simulated", "(JI)I"⟩
abbrev cX8_simulate : ByteArray := prog_10_method_84_code
def yX8_simulate : MethodName := ⟨RX8, "simulate", "(JI)I"⟩
abbrev cX8_save : ByteArray := prog_10_method_85_code
def yX8_save : MethodName := ⟨RX8, "save", "(I)I"⟩
abbrev cX8_restore : ByteArray := prog_10_method_86_code
def yX8_restore : MethodName := ⟨RX8, "restore", "(I)I"⟩
def RJx145de : String := "java/io/Serializable"
def TJx145de : u_T := fun k => match k with
  | _ => ("", "", "", false)
def tyJx145de : Nat → FieldType := fun k => match k with
  | _ => .int
abbrev wsJx145de0 : List Cond := u_ws RJx145de TJx145de 0
theorem nmJx145de : ∀ a, a < 0 → ∀ b, b < 0 → a ≠ b → (TJx145de a).2.1 ≠ (TJx145de b).2.1 := by decide +kernel
theorem tyJx145de_ok : ∀ k, k < 0 → parseFieldDescriptor (TJx145de k).2.2.1 = some (tyJx145de k) := by decide +kernel
def RJ13 : String := "java/lang/Long"
def TJ13 : u_T := fun k => match k with
  | _ => ("", "", "", false)
def tyJ13 : Nat → FieldType := fun k => match k with
  | _ => .int
abbrev wsJ130 : List Cond := u_ws RJ13 TJ13 0
theorem nmJ13 : ∀ a, a < 0 → ∀ b, b < 0 → a ≠ b → (TJ13 a).2.1 ≠ (TJ13 b).2.1 := by decide +kernel
theorem tyJ13_ok : ∀ k, k < 0 → parseFieldDescriptor (TJ13 k).2.2.1 = some (tyJ13 k) := by decide +kernel
abbrev cJ13_bitCount_95d88 : ByteArray := prog_15_method_50_code
def yJ13_bitCount_95d88 : MethodName := ⟨RJ13, "bitCount", "(J)I"⟩
def RJ9 : String := "java/lang/Math"
def TJ9 : u_T := fun k => match k with
  | _ => ("", "", "", false)
def tyJ9 : Nat → FieldType := fun k => match k with
  | _ => .int
abbrev wsJ90 : List Cond := u_ws RJ9 TJ9 0
theorem nmJ9 : ∀ a, a < 0 → ∀ b, b < 0 → a ≠ b → (TJ9 a).2.1 ≠ (TJ9 b).2.1 := by decide +kernel
theorem tyJ9_ok : ∀ k, k < 0 → parseFieldDescriptor (TJ9 k).2.2.1 = some (tyJ9 k) := by decide +kernel
abbrev cJ9_max_7cf53 : ByteArray := prog_16_method_65_code
def yJ9_max_7cf53 : MethodName := ⟨RJ9, "max", "(II)I"⟩
abbrev cJ9_min_7cf53 : ByteArray := prog_16_method_69_code
def yJ9_min_7cf53 : MethodName := ⟨RJ9, "min", "(II)I"⟩
def RJ0 : String := "java/lang/String"
def TJ0 : u_T := fun k => match k with
  | _ => ("", "", "", false)
def tyJ0 : Nat → FieldType := fun k => match k with
  | _ => .int
abbrev wsJ00 : List Cond := u_ws RJ0 TJ0 0
theorem nmJ0 : ∀ a, a < 0 → ∀ b, b < 0 → a ≠ b → (TJ0 a).2.1 ≠ (TJ0 b).2.1 := by decide +kernel
theorem tyJ0_ok : ∀ k, k < 0 → parseFieldDescriptor (TJ0 k).2.2.1 = some (tyJ0 k) := by decide +kernel
def RJ10 : String := "java/lang/System"
def TJ10 : u_T := fun k => match k with
  | _ => ("", "", "", false)
def tyJ10 : Nat → FieldType := fun k => match k with
  | _ => .int
abbrev wsJ100 : List Cond := u_ws RJ10 TJ10 0
theorem nmJ10 : ∀ a, a < 0 → ∀ b, b < 0 → a ≠ b → (TJ10 a).2.1 ≠ (TJ10 b).2.1 := by decide +kernel
theorem tyJ10_ok : ∀ k, k < 0 → parseFieldDescriptor (TJ10 k).2.2.1 = some (tyJ10 k) := by decide +kernel
def RJ7 : String := "java/util/Arrays"
def TJ7 : u_T := fun k => match k with
  | _ => ("", "", "", false)
def tyJ7 : Nat → FieldType := fun k => match k with
  | _ => .int
abbrev wsJ70 : List Cond := u_ws RJ7 TJ7 0
theorem nmJ7 : ∀ a, a < 0 → ∀ b, b < 0 → a ≠ b → (TJ7 a).2.1 ≠ (TJ7 b).2.1 := by decide +kernel
theorem tyJ7_ok : ∀ k, k < 0 → parseFieldDescriptor (TJ7 k).2.2.1 = some (tyJ7 k) := by decide +kernel
abbrev cJ7_fill_53178 : ByteArray := prog_21_method_103_code
def yJ7_fill_53178 : MethodName := ⟨RJ7, "fill", "([II)V"⟩
def RL : String := "RangeGravesLaw"
abbrev cL_append : ByteArray := method_3_code
def yL_append : MethodName := ⟨RL, "append", "(LRangeGraves;I[J)I"⟩
abbrev cL_load : ByteArray := method_4_code
def yL_load : MethodName := ⟨RL, "load", "(LRangeGraves;[J)I"⟩
abbrev cL_about : ByteArray := method_5_code
def yL_about : MethodName := ⟨RL, "about", "(LRangeGraves;I[J)I"⟩
abbrev cL_get : ByteArray := method_6_code
def yL_get : MethodName := ⟨RL, "get", "(LRangeGraves;II[J)I"⟩
abbrev cL_run : ByteArray := method_7_code
def yL_run : MethodName := ⟨RL, "run", "(LRangeGraves;II[J)I"⟩
abbrev cL_write : ByteArray := method_8_code
def yL_write : MethodName := ⟨RL, "write", "(LRangeGraves;III[J)I"⟩
abbrev cL_eye : ByteArray := method_9_code
def yL_eye : MethodName := ⟨RL, "eye", "(LRangeGraves;I[J)I"⟩
abbrev cL_put : ByteArray := method_10_code
def yL_put : MethodName := ⟨RL, "put", "(LRangeGraves;II[J)I"⟩
abbrev cL_bury : ByteArray := method_11_code
def yL_bury : MethodName := ⟨RL, "bury", "(LRangeGraves;II[J)I"⟩
abbrev cL_open : ByteArray := method_12_code
def yL_open : MethodName := ⟨RL, "open", "(LRangeGraves;[J)I"⟩
abbrev cL_close : ByteArray := method_13_code
def yL_close : MethodName := ⟨RL, "close", "(LRangeGraves;I[J)I"⟩
abbrev cL_flush : ByteArray := method_14_code
def yL_flush : MethodName := ⟨RL, "flush", "(LRangeGraves;[J)I"⟩
abbrev cL_merge : ByteArray := method_15_code
def yL_merge : MethodName := ⟨RL, "merge", "(LRangeGraves;I[J)I"⟩
abbrev cL_undo : ByteArray := method_16_code
def yL_undo : MethodName := ⟨RL, "undo", "(LRangeGraves;[J)I"⟩
abbrev cL_looks : ByteArray := method_17_code
def yL_looks : MethodName := ⟨RL, "looks", "(LRangeGraves;I[J)I"⟩
abbrev cL_next : ByteArray := method_18_code
def yL_next : MethodName := ⟨RL, "next", "(LRangeGraves;II[J)I"⟩
abbrev cL_count : ByteArray := method_19_code
def yL_count : MethodName := ⟨RL, "count", "(LRangeGraves;III[J)I"⟩
abbrev cL_grave : ByteArray := method_20_code
def yL_grave : MethodName := ⟨RL, "grave", "(LRangeGraves;I[J)I"⟩
abbrev cL_saves : ByteArray := method_21_code
def yL_saves : MethodName := ⟨RL, "saves", "(LRangeGraves;I[J)I"⟩
abbrev cL_runScript : ByteArray := method_22_code
def yL_runScript : MethodName := ⟨RL, "runScript", "(LRangeGraves;IJ[J)I"⟩
abbrev cL_simulate : ByteArray := method_23_code
def yL_simulate : MethodName := ⟨RL, "simulate", "(LRangeGraves;JI[J)I"⟩
abbrev cL_save : ByteArray := method_24_code
def yL_save : MethodName := ⟨RL, "save", "(LRangeGraves;I[J)I"⟩
abbrev cL_restore : ByteArray := method_25_code
def yL_restore : MethodName := ⟨RL, "restore", "(LRangeGraves;I[J)I"⟩
abbrev cL_law : ByteArray := code
def yL_law : MethodName := ⟨RL, "law", "([I)Z"⟩
abbrev vwCl : List vw_C := [(RX0, TX0, 5), (RX1, TX1, 3), (RX2, TX2, 2), (RX3, TX3, 8), (RX4, TX4, 2), (RX5, TX5, 1), (RX6, TX6, 5), (RX7, TX7, 7), (RX8, TX8, 17)]
end
section
/-! the layer over the machine: worlds as functions, one judgement SP for a method's body, rows for each instruction -/
-- worlds
abbrev CE : Type := (Nat × vp_A) ⊕ (Nat × List Value)
abbrev HP : Type := Nat → Option CE
abbrev HS : Type := List (Nat × CE)
def cvE (cA : Nat → ClassId) (e : CE) : va_E := match e with
  | .inl x => .inl (cA x.1, x.2)
  | .inr o => .inr o
def cvS (cA : Nat → ClassId) (hs : HS) : va_W := hs.map (fun q => (q.1, cvE cA q.2))
def hget (hs : HS) : HP := fun a => (hs.find? (fun q => q.1 == a)).map (fun q => q.2)
def hup (h : HP) (a : Nat) (e : CE) : HP := fun b => if b = a then some e else h b
def kTy (k : Nat) : FieldType := if k = 0 then .int else if k = 1 then .boolean else if k = 2 then .long else if k = 3 then .object RX2 else .object RX3
def tysL (cA : Nat → ClassId) : List (ClassId × FieldType) := (List.range 5).map (fun k => (cA k, kTy k))
theorem tysL_at {cA : Nat → ClassId} {k : Nat} (h : k < 5) : (tysL cA)[k]? = some (cA k, kTy k) := by
  simp [tysL, h]
theorem cvS_at {cA : Nat → ClassId} {hs : HS} {k : Nat} {q : Nat × CE} (h : hs[k]? = some q) : (cvS cA hs)[k]? = some (q.1, cvE cA q.2) := by
  simp [cvS, h]
theorem cvS_at' {cA : Nat → ClassId} {hs : HS} {k : Nat} {q : Nat × va_E} (h : (cvS cA hs)[k]? = some q) : ∃ q', hs[k]? = some q' ∧ q = (q'.1, cvE cA q'.2) := by
  simp [cvS] at h
  obtain ⟨a, b, h1, h2⟩ := h
  exact ⟨(a, b), h1, h2.symm⟩
theorem hget_at {hs : HS} {a : Nat} {e : CE} (h : hget hs a = some e) : ∃ k : Nat, hs[k]? = some (a, e) := by
  simp only [hget, Option.map_eq_some_iff] at h
  obtain ⟨q, h1, h2⟩ := h
  have h3 := List.find?_some h1
  have h4 := List.mem_of_find?_eq_some h1
  simp at h3
  obtain ⟨k, hk⟩ := List.getElem?_of_mem h4
  refine ⟨k, ?_⟩
  rw [hk]
  obtain ⟨a', e'⟩ := q
  simp at h2 h3
  rw [h2, h3]
/-- addresses are apart -/
def hnd (hs : HS) : Prop := ∀ (i j : Nat) (p q : Nat × CE), hs[i]? = some p → hs[j]? = some q → p.1 = q.1 → i = j
theorem hnd_of {cA : Nat → ClassId} {A : Nat → Prop} {hs : HS} (h : va_D A (cvS cA hs)) : hnd hs := fun i j p q hi hj e => h.1 i j _ _ (cvS_at hi) (cvS_at hj) e
theorem hget_of {hs : HS} (hn : hnd hs) {k a : Nat} {e : CE} (h : hs[k]? = some (a, e)) : hget hs a = some e := by
  have hm : (a, e) ∈ hs := List.mem_of_getElem? h
  unfold hget
  cases hf : hs.find? (fun q => q.1 == a) with
  | none => exact absurd (List.find?_eq_none.mp hf _ hm) (by simp)
  | some q =>
    have h3 := List.find?_some hf
    obtain ⟨j, hj⟩ := List.getElem?_of_mem (List.mem_of_find?_eq_some hf)
    simp at h3
    have hkj := hn k j _ _ h hj h3.symm
    subst hkj
    rw [h] at hj
    cases hj
    rfl
theorem hget_none {hs : HS} {a : Nat} (h : ∀ (k : Nat) (q : Nat × CE), hs[k]? = some q → q.1 ≠ a) : hget hs a = none := by
  unfold hget
  rw [List.find?_eq_none.mpr]
  · rfl
  · intro q hq
    obtain ⟨k, hk⟩ := List.getElem?_of_mem hq
    simpa using h k q hk
theorem hget_set {hs : HS} (hn : hnd hs) {k a : Nat} {e e' : CE} (h : hs[k]? = some (a, e)) : hnd (hs.set k (a, e')) ∧ hget (hs.set k (a, e')) = hup (hget hs) a e' := by
  have hlt : k < hs.length := (List.getElem?_eq_some_iff.mp h).1
  have hn' : hnd (hs.set k (a, e')) := by
    intro i j p q hi hj hpq
    rw [List.getElem?_set] at hi hj
    by_cases hik : k = i
    · by_cases hjk : k = j
      · rw [← hik, ← hjk]
      · rw [if_pos hik, if_pos hlt] at hi
        rw [if_neg hjk] at hj
        cases hi
        subst hik
        exact hn _ _ _ _ h hj hpq
    · rw [if_neg hik] at hi
      by_cases hjk : k = j
      · rw [if_pos hjk, if_pos hlt] at hj
        cases hj
        subst hjk
        exact hn _ _ _ _ hi h hpq
      · rw [if_neg hjk] at hj
        exact hn _ _ _ _ hi hj hpq
  refine ⟨hn', ?_⟩
  funext b
  unfold hup
  by_cases hb : b = a
  · rw [if_pos hb, hb]
    exact hget_of hn' (k := k) (by rw [List.getElem?_set, if_pos rfl, if_pos hlt])
  · rw [if_neg hb]
    cases hg : hget hs b with
    | none =>
      refine hget_none fun j q hj hq => ?_
      rw [List.getElem?_set] at hj
      by_cases hjk : k = j
      · rw [if_pos hjk, if_pos hlt] at hj
        cases hj
        exact hb hq.symm
      · rw [if_neg hjk] at hj
        have h9 := hget_of hn (k := j) (a := q.1) (e := q.2) hj
        rw [hq, hg] at h9
        cases h9
    | some e2 =>
      obtain ⟨j, hj⟩ := hget_at hg
      have hjk : k ≠ j := fun z => by subst z; rw [h] at hj; cases hj; exact hb rfl
      exact hget_of hn' (k := j) (by rw [List.getElem?_set, if_neg hjk]; exact hj)
theorem hget_push {hs : HS} {a : Nat} {e : CE} (hn : hnd (hs ++ [(a, e)])) : hget (hs ++ [(a, e)]) = hup (hget hs) a e := by
  have hn0 : hnd hs := by
    intro i j p q hi hj
    refine hn i j p q ?_ ?_
    · rw [List.getElem?_append_left (List.getElem?_eq_some_iff.mp hi).1]; exact hi
    · rw [List.getElem?_append_left (List.getElem?_eq_some_iff.mp hj).1]; exact hj
  have hlast : (hs ++ [(a, e)])[hs.length]? = some (a, e) := by simp
  funext b
  unfold hup
  by_cases hb : b = a
  · rw [if_pos hb, hb]
    exact hget_of hn hlast
  · rw [if_neg hb]
    cases hg : hget hs b with
    | none =>
      refine hget_none fun j q hj hq => ?_
      rcases Nat.lt_or_ge j hs.length with z | z
      · rw [List.getElem?_append_left z] at hj
        have h9 := hget_of hn0 (k := j) (a := q.1) (e := q.2) hj
        rw [hq, hg] at h9
        cases h9
      · rw [List.getElem?_append_right z] at hj
        cases hz : j - hs.length with
        | zero => rw [hz] at hj; simp at hj; subst hj; exact hb hq.symm
        | succ n => rw [hz] at hj; simp at hj
    | some e2 =>
      obtain ⟨j, hj⟩ := hget_at hg
      exact hget_of hn (k := j) (by rw [List.getElem?_append_left (List.getElem?_eq_some_iff.mp hj).1]; exact hj)
theorem cvS_set {cA : Nat → ClassId} {hs : HS} {k a : Nat} {e : CE} : (cvS cA hs).set k (a, cvE cA e) = cvS cA (hs.set k (a, e)) := by
  simp [cvS, List.map_set]
theorem cvS_push {cA : Nat → ClassId} {hs : HS} {a : Nat} {e : CE} : cvS cA hs ++ [(a, cvE cA e)] = cvS cA (hs ++ [(a, e)]) := by
  simp [cvS]
-- words that hold everywhere
def isWarm (w : Cond) : Bool := match w with
  | .fieldLinkNest _ _ _ _ _ _ => true
  | .methodLinkNest _ _ _ _ => true
  | .declares _ => true
  | .castable _ _ => true
  | _ => false
theorem isWarm_warm {w : Cond} (hw : isWarm w = true) {s U : State} (hW : s.WarmedH U.vm) (h : va_Nw w s) : va_Nw w U := by
  cases w <;> first | exact va_Nw.warmF hW h | exact va_Nw.warmM hW h | exact va_Nw.warmD hW h | exact va_Nw.warmC hW h | cases hw
theorem isWarm_tabs {w : Cond} (hw : isWarm w = true) : w.onTables = true := by
  cases w <;> first | cases hw; done | rfl
/-- a method: name, code, locals, what it returns, room, 0 for an instance's, 1 static, 2 a constructor, parameters -/
abbrev MT : Type := MethodName × ByteArray × Nat × Option FieldType × Room × Nat × Nat
abbrev mN (M : MT) : MethodName := M.1
abbrev mB (M : MT) : ByteArray := M.2.1
abbrev mL (M : MT) : Nat := M.2.2.1
abbrev mRt (M : MT) : Option FieldType := M.2.2.2.1
abbrev mRm (M : MT) : Room := M.2.2.2.2.1
abbrev mKd (M : MT) : Nat := M.2.2.2.2.2.1
abbrev mNp (M : MT) : Nat := M.2.2.2.2.2.2
def BIG : List Cond := lw_tbl.filter goodWord
def mWs (M : MT) : List Cond := Cond.code (mN M) (mB M) (mL M) (mRt M) :: BIG
def callW (M : MT) : List Cond := if mKd M = 0 then [Cond.instanceMethod (mN M), Cond.selects (mN M).cls (mN M) (mN M), Cond.initialized (mN M).cls, Cond.code (mN M) (mB M) (mL M) (mRt M)] else if mKd M = 1 then [Cond.static (mN M), Cond.initialized (mN M).cls, Cond.code (mN M) (mB M) (mL M) (mRt M)] else [Cond.instanceMethod (mN M), Cond.initialized (mN M).cls, Cond.code (mN M) (mB M) (mL M) (mRt M)]
def wok (M : MT) : Prop := (∀ w ∈ callW M, w ∈ BIG) ∧ (parseMethodDescriptor (mN M).desc).map (fun d => d.parameters.length) = some (mNp M) ∧ (mN M).cls ≠ "java/lang/invoke/MethodHandle" ∧ (mN M).cls ≠ "java/lang/invoke/VarHandle"
theorem big_good {w : Cond} (h : w ∈ BIG) : (w.onTables && w.keeps) = true ∨ ∃ ty, w = .arrayClass ty := good_of_word (List.mem_filter.mp h).2
theorem big_in {w : Cond} (h : w ∈ lw_tbl) (g : goodWord w = true) : w ∈ BIG := List.mem_filter.mpr ⟨h, g⟩
-- what a state knows
/-- throwables that a row of a table lets pass -/
def ncL : List (String × String) := [("java/lang/IllegalArgumentException", "java/lang/IndexOutOfBoundsException"), ("java/lang/IllegalStateException", "java/lang/IndexOutOfBoundsException"), ("java/lang/IllegalStateException", "java/lang/IllegalArgumentException")]
theorem ncMoved {C T : String} {u U : State} (hvm : u.vm.Alike U.vm) (h : va_Nc C T u) : va_Nc C T U := by
  obtain ⟨c, t, h1, h2, h3⟩ := h
  exact ⟨c, t, by rw [hvm.findClass]; exact h1, by rw [hvm.findClass]; exact h2, by rw [hvm.assignable]; exact h3⟩
def KS (D : va_G) (cA : Nat → ClassId) (U : State) : Prop :=
  va_K D vwCl (tysL cA) U ∧ (∀ w ∈ lw_tbl, isWarm w = true → va_Nw w U) ∧ (∀ own k tx, Cond.stringRef own k tx ∈ lw_tbl → ∃ a, vk_R own k tx a U) ∧ (∀ C, Cond.arrayOver (.object C) ∈ lw_tbl → va_AO C U) ∧ ∀ q ∈ ncL, va_Nc q.1 q.2 U
theorem KS.warm {D : va_G} {cA : Nat → ClassId} {s U : State} (hW : s.WarmedH U.vm) (h : KS D cA s) : KS D cA U :=
  ⟨va_K.moved hW.alike h.1, fun w hw g => isWarm_warm g hW (h.2.1 w hw g), fun o k t ht => by obtain ⟨a, ha⟩ := h.2.2.1 o k t ht; exact ⟨a, ha.warm hW⟩, fun C hC => (h.2.2.2.1 C hC).moved hW.alike, fun q hq => ncMoved hW.alike (h.2.2.2.2 q hq)⟩
theorem KS.same {D : va_G} {cA : Nat → ClassId} {s U : State} (hv : s.vm = U.vm) (h : KS D cA s) : KS D cA U :=
  ⟨va_K.moved (by rw [← hv]; exact Vm.Alike.refl _) h.1, fun w hw g => va_Nw.same (isWarm_tabs g) hv (h.2.1 w hw g), fun o k t ht => by obtain ⟨a, ha⟩ := h.2.2.1 o k t ht; exact ⟨a, ha.same hv.symm⟩, fun C hC => (h.2.2.2.1 C hC).moved (by rw [← hv]; exact Vm.Alike.refl _), fun q hq => ncMoved (by rw [← hv]; exact Vm.Alike.refl _) (h.2.2.2.2 q hq)⟩
def ST (A : Nat → Prop) (U : State) (H : Heap) : Prop := vx_Zq Bundle.tN "UNASSIGNED_STACK" Bundle.steD A U H ∧ vx_Zq Bundle.tN "SUPPRESSED_SENTINEL" Bundle.listD A U H
theorem ST.moved {A : Nat → Prop} {u U : State} {H : Heap} (hvm : u.vm.Alike U.vm) (h : ST A u H) : ST A U H := ⟨h.1.moved hvm, h.2.moved hvm⟩
theorem ST.kept {A : Nat → Prop} {U : State} {H H1 : Heap} (h : ST A U H) (hq : ∀ a : Nat, a < H.size → ¬ A a → H1[a]? = H[a]?) : ST A U H1 := ⟨h.1.kept hq, h.2.kept hq⟩
theorem ST.narrow {A B : Nat → Prop} {U : State} {H : Heap} (h : ST A U H) (hAB : ∀ q, B q → A q) : ST B U H := ⟨h.1.narrow hAB, h.2.narrow hAB⟩
-- a call's start and its ends
abbrev OUT : Type := Option Value ⊕ String
abbrev PST : Type := OUT → HP → Nat → Prop
def Pcm (D : va_G) (cA : Nat → ClassId) (args : List Value) (hs : HS) (sz : Nat) : Array Value → State → Prop :=
  va_Pc args (fun U => U.heap.size = sz ∧ va_P D vwCl (cvS cA hs) U.heap ∧ va_D (fun _ => True) (cvS cA hs) ∧ KS D cA U ∧ ST (va_A (cvS cA hs) sz) U U.heap)
def Qcm (D : va_G) (cA : Nat → ClassId) (A : Nat → Prop) (Q : PST) : Array Value → State → Outcome → State → Prop := fun _ st o t =>
  (∃ (v : Option Value) (hs' : HS), o = .returned v ∧ Q (.inl v) (hget hs') t.heap.size ∧ va_P D vwCl (cvS cA hs') t.heap ∧ va_D A (cvS cA hs')) ∧ va_F A st t
def Xcm (D : va_G) (cA : Nat → ClassId) (A : Nat → Prop) (Q : PST) : String → State → State → Prop := fun E st t =>
  (∃ hs' : HS, Q (.inr E) (hget hs') t.heap.size ∧ va_P D vwCl (cvS cA hs') t.heap ∧ va_D A (cvS cA hs')) ∧ va_F A st t
theorem Pcm_blind {D : va_G} {cA : Nat → ClassId} {args : List Value} {hs : HS} {sz : Nat} : FrameBlind (Pcm D cA args hs sz) := by
  intro a U g mk h
  obtain ⟨h1, h2, h3, h4, h5, h6⟩ := h
  exact ⟨h1, h2, h3, h4, KS.same (s := U) (U := U.calling g mk a) rfl h5, ST.moved (u := U) (U := U.calling g mk a) (Vm.Alike.refl U.vm) h6⟩
/-- a method's contract in one world: it ends so that Q holds -/
def MM (l : Launch) (M : MT) (args : List Value) (h : HP) (sz : Nat) (Q : PST) : Prop :=
  wok M ∧ ∀ (D : va_G) (cA : Nat → ClassId) (hs : HS), h = hget hs → vx_Met l (mN M) (mWs M) (mRm M) (Pcm D cA args hs sz) (Qcm D cA (va_A (cvS cA hs) sz) Q) (Xcm D cA (va_A (cvS cA hs) sz) Q) (mRm M).cells (mRm M).slots (va_A (cvS cA hs) sz)
-- a body
abbrev SCR : Type := Option (Nat × Nat × (Nat → Int32)) × Option (List (Nat × Nat × Nat × Nat))
def XOK (X : SCR) (A : Nat → Prop) (s : State) : Prop := ∀ b L xs, X.1 = some (b, L, xs) → va_X b L xs s s.heap ∧ b < s.heap.size ∧ ¬ A b
def TBL (X : SCR) (c : Code) : Prop := ∀ hh, X.2 = some hh → c.exceptionTable.toList = tableOf hh
def Cx (l : Launch) (X : SCR) (M : MT) (p : Program) (s : State) (m : MethodId) (args : Array Value) (meth : Method) (c : Code) (D : va_G) (cA : Nat → ClassId) (A : Nat → Prop) : Prop :=
  p.tables.exec = Jvm.exec ∧ c.code = mB M ∧ c.maxLocals = mL M ∧ meth.sig.returnType = mRt M ∧ s.vm.findClass (mN M).cls = some m.cls ∧ (∀ w ∈ BIG, w.before args s = true) ∧ meth.locks = false ∧ ((mN M).name = "<init>" → meth.name = "<init>") ∧ TBL X c ∧ KS D cA s ∧ ST A s s.heap ∧ (∀ q : Nat, s.heap.size ≤ q → A q) ∧ XOK X A s
def SP (l : Launch) (X : SCR) (M : MT) (pc : Nat) (lv : List (Nat × Value)) (st : List Value) (h : HP) (sz bc bs : Nat) (Q : PST) : Prop :=
  ∀ (p : Program) (e : Env) (s : State) (m : MethodId) (args : Array Value) (below : List Frame) (meth : Method) (c : Code) (D : va_G) (cA : Nat → ClassId) (A : Nat → Prop) (H : Heap) (locs : List Loc) (cells slots : Nat) (ls : Array Slot) (hs : HS),
    Cx l X M p s m args meth c D cA A → h = hget hs → va_P D vwCl (cvS cA hs) H → va_D A (cvS cA hs) → va_S A s.heap H locs → H.size = sz → lv_has ls (mL M) lv → cells + bc ≤ (mRm M).cells → slots + bs ≤ (mRm M).slots →
    W p l e (mRm M) s m args below meth c H locs cells slots (vx_MQ below (Qcm D cA A Q) (Xcm D cA A Q) args s (mRm M).cells (mRm M).slots A) (F0 m pc ls st)
theorem va_A_D {cA : Nat → ClassId} {hs : HS} {sz : Nat} (h : va_D (fun _ => True) (cvS cA hs)) : va_D (va_A (cvS cA hs) sz) (cvS cA hs) := h.self
theorem MM_of {l : Launch} {M : MT} (hw : wok M) (hp : plainName (mN M).cls = true) {args : List Value} {h : HP} {sz : Nat} {Q : PST} (hlen : (lg_sl args).length ≤ mL M)
    (k : SP l (none, some []) M 0 (lv_args 0 args) [] h sz (mRm M).cells (mRm M).slots Q) : MM l M args h sz Q := by
  refine ⟨hw, fun D cA hs hh => ?_⟩
  refine vx_ofW (cc := mB M) (maxL := mL M) (ret := mRt M) hp rfl ?_
  intro p e s m as below meth c s₁ B hml ht hv
  obtain ⟨rfl, hsz, hP, hD0, hK, hT⟩ := hv
  have hts := atoms_spec (ws := mWs M) B.pre
  have hD := va_A_D (sz := sz) hD0
  have hl := lv_entry args (n := mL M) hlen
  rw [lg_entry_eq]
  refine k p e s m _ below meth c D cA _ s.heap [] 0 0 _ hs ⟨B.exec, B.bytes, hml, B.returns, findClass_of_methodNamed B.named, fun w hw => hts w (List.mem_cons_of_mem _ hw), B.notSynchronized, fun hi => (name_of_methodNamed B.named B.method).1.trans hi, ?_, hK, ?_, ?_, ?_⟩ hh hP hD va_S.rf hsz hl (by omega) (by omega)
  · intro hh hx
    cases hx
    cases htt : c.exceptionTable.toList with
    | nil => rfl
    | cons x r => exact (ht x (by rw [htt]; exact List.mem_cons_self)).elim
  · exact hT
  · intro q hq
    exact Or.inr (by omega)
  · intro b L xs hX
    cases hX
end
section
theorem sp_iload_n {l : Launch} {X : SCR} {M : MT} {pc : Nat} {lv : List (Nat × Value)} {st : List Value} {h : HP} {sz bc bs : Nat} {Q : PST} {k : Fin 4} {x : Int32} (d : decode (mB M) pc = .ok (.iload_n k, 1)) (j : Nat) (hv : lv[j]? = some ((k : Nat), .int x)) (kk : SP l X M (pc + 1) lv (.int x :: st) h sz bc bs Q) : SP l X M pc lv st h sz bc bs Q := fun p e s m args below meth c D cA A H locs cells slots ls hs C hh hP hD hS hz hl hc hs2 => lv_iload_n C.1 C.2.1 d rfl (lv_at hl j hv) (kk p e s m args below meth c D cA A H locs cells slots ls hs C hh hP hD hS hz hl hc hs2)
theorem sp_iload {l : Launch} {X : SCR} {M : MT} {pc : Nat} {lv : List (Nat × Value)} {st : List Value} {h : HP} {sz bc bs : Nat} {Q : PST} {i : Nat} {x : Int32} (d : decode (mB M) pc = .ok (.iload i, 2)) (j : Nat) (hv : lv[j]? = some (i, .int x)) (kk : SP l X M (pc + 2) lv (.int x :: st) h sz bc bs Q) : SP l X M pc lv st h sz bc bs Q := fun p e s m args below meth c D cA A H locs cells slots ls hs C hh hP hD hS hz hl hc hs2 => lv_iload C.1 C.2.1 d (lv_at hl j hv) (kk p e s m args below meth c D cA A H locs cells slots ls hs C hh hP hD hS hz hl hc hs2)
theorem sp_istore_n {l : Launch} {X : SCR} {M : MT} {pc : Nat} {lv : List (Nat × Value)} {st : List Value} {h : HP} {sz bc bs : Nat} {Q : PST} {k : Fin 4} {x : Int32} {lv' : List (Nat × Value)} (d : decode (mB M) pc = .ok (.istore_n k, 1)) (hn : (k : Nat) < mL M) (hf : ((k : Nat), Value.int x) :: lv.filter (fun q => !(q.1 == (k : Nat)) && !(q.1 + 1 == (k : Nat) && q.2.category == 2)) = lv') (kk : SP l X M (pc + 1) lv' st h sz bc bs Q) : SP l X M pc lv (.int x :: st) h sz bc bs Q := fun p e s m args below meth c D cA A H locs cells slots ls hs C hh hP hD hS hz hl hc hs2 => lv_istore_n C.1 C.2.1 d rfl hl hn hf (fun ls hl => kk p e s m args below meth c D cA A H locs cells slots ls hs C hh hP hD hS hz hl hc hs2)
theorem sp_istore {l : Launch} {X : SCR} {M : MT} {pc : Nat} {lv : List (Nat × Value)} {st : List Value} {h : HP} {sz bc bs : Nat} {Q : PST} {i : Nat} {x : Int32} {lv' : List (Nat × Value)} (d : decode (mB M) pc = .ok (.istore i, 2)) (hn : i < mL M) (hf : (i, Value.int x) :: lv.filter (fun q => !(q.1 == i) && !(q.1 + 1 == i && q.2.category == 2)) = lv') (kk : SP l X M (pc + 2) lv' st h sz bc bs Q) : SP l X M pc lv (.int x :: st) h sz bc bs Q := fun p e s m args below meth c D cA A H locs cells slots ls hs C hh hP hD hS hz hl hc hs2 => lv_istore C.1 C.2.1 d hl hn hf (fun ls hl => kk p e s m args below meth c D cA A H locs cells slots ls hs C hh hP hD hS hz hl hc hs2)
theorem sp_lload_n {l : Launch} {X : SCR} {M : MT} {pc : Nat} {lv : List (Nat × Value)} {st : List Value} {h : HP} {sz bc bs : Nat} {Q : PST} {k : Fin 4} {x : Int64} (d : decode (mB M) pc = .ok (.lload_n k, 1)) (j : Nat) (hv : lv[j]? = some ((k : Nat), .long x)) (kk : SP l X M (pc + 1) lv (.long x :: st) h sz bc bs Q) : SP l X M pc lv st h sz bc bs Q := fun p e s m args below meth c D cA A H locs cells slots ls hs C hh hP hD hS hz hl hc hs2 => lv_lload_n C.1 C.2.1 d rfl (lv_at hl j hv) (kk p e s m args below meth c D cA A H locs cells slots ls hs C hh hP hD hS hz hl hc hs2)
theorem sp_lload {l : Launch} {X : SCR} {M : MT} {pc : Nat} {lv : List (Nat × Value)} {st : List Value} {h : HP} {sz bc bs : Nat} {Q : PST} {i : Nat} {x : Int64} (d : decode (mB M) pc = .ok (.lload i, 2)) (j : Nat) (hv : lv[j]? = some (i, .long x)) (kk : SP l X M (pc + 2) lv (.long x :: st) h sz bc bs Q) : SP l X M pc lv st h sz bc bs Q := fun p e s m args below meth c D cA A H locs cells slots ls hs C hh hP hD hS hz hl hc hs2 => lv_lload C.1 C.2.1 d (lv_at hl j hv) (kk p e s m args below meth c D cA A H locs cells slots ls hs C hh hP hD hS hz hl hc hs2)
theorem sp_lstore_n {l : Launch} {X : SCR} {M : MT} {pc : Nat} {lv : List (Nat × Value)} {st : List Value} {h : HP} {sz bc bs : Nat} {Q : PST} {k : Fin 4} {x : Int64} {lv' : List (Nat × Value)} (d : decode (mB M) pc = .ok (.lstore_n k, 1)) (hn : (k : Nat) + 1 < mL M) (hf : ((k : Nat), Value.long x) :: lv.filter (fun q => !(q.1 == (k : Nat)) && (!(q.1 == (k : Nat) + 1) && !(q.1 + 1 == (k : Nat) && q.2.category == 2))) = lv') (kk : SP l X M (pc + 1) lv' st h sz bc bs Q) : SP l X M pc lv (.long x :: st) h sz bc bs Q := fun p e s m args below meth c D cA A H locs cells slots ls hs C hh hP hD hS hz hl hc hs2 => lv_lstore_n C.1 C.2.1 d rfl hl hn hf (fun ls hl => kk p e s m args below meth c D cA A H locs cells slots ls hs C hh hP hD hS hz hl hc hs2)
theorem sp_lstore {l : Launch} {X : SCR} {M : MT} {pc : Nat} {lv : List (Nat × Value)} {st : List Value} {h : HP} {sz bc bs : Nat} {Q : PST} {i : Nat} {x : Int64} {lv' : List (Nat × Value)} (d : decode (mB M) pc = .ok (.lstore i, 2)) (hn : i + 1 < mL M) (hf : (i, Value.long x) :: lv.filter (fun q => !(q.1 == i) && (!(q.1 == i + 1) && !(q.1 + 1 == i && q.2.category == 2))) = lv') (kk : SP l X M (pc + 2) lv' st h sz bc bs Q) : SP l X M pc lv (.long x :: st) h sz bc bs Q := fun p e s m args below meth c D cA A H locs cells slots ls hs C hh hP hD hS hz hl hc hs2 => lv_lstore C.1 C.2.1 d hl hn hf (fun ls hl => kk p e s m args below meth c D cA A H locs cells slots ls hs C hh hP hD hS hz hl hc hs2)
theorem sp_aload_n {l : Launch} {X : SCR} {M : MT} {pc : Nat} {lv : List (Nat × Value)} {st : List Value} {h : HP} {sz bc bs : Nat} {Q : PST} {k : Fin 4} {x : Nat} (d : decode (mB M) pc = .ok (.aload_n k, 1)) (j : Nat) (hv : lv[j]? = some ((k : Nat), .ref x)) (kk : SP l X M (pc + 1) lv (.ref x :: st) h sz bc bs Q) : SP l X M pc lv st h sz bc bs Q := fun p e s m args below meth c D cA A H locs cells slots ls hs C hh hP hD hS hz hl hc hs2 => lv_aload_n C.1 C.2.1 d rfl (lv_at hl j hv) (kk p e s m args below meth c D cA A H locs cells slots ls hs C hh hP hD hS hz hl hc hs2)
theorem sp_aload {l : Launch} {X : SCR} {M : MT} {pc : Nat} {lv : List (Nat × Value)} {st : List Value} {h : HP} {sz bc bs : Nat} {Q : PST} {i : Nat} {x : Nat} (d : decode (mB M) pc = .ok (.aload i, 2)) (j : Nat) (hv : lv[j]? = some (i, .ref x)) (kk : SP l X M (pc + 2) lv (.ref x :: st) h sz bc bs Q) : SP l X M pc lv st h sz bc bs Q := fun p e s m args below meth c D cA A H locs cells slots ls hs C hh hP hD hS hz hl hc hs2 => lv_aload C.1 C.2.1 d (lv_at hl j hv) (kk p e s m args below meth c D cA A H locs cells slots ls hs C hh hP hD hS hz hl hc hs2)
theorem sp_astore_n {l : Launch} {X : SCR} {M : MT} {pc : Nat} {lv : List (Nat × Value)} {st : List Value} {h : HP} {sz bc bs : Nat} {Q : PST} {k : Fin 4} {x : Nat} {lv' : List (Nat × Value)} (d : decode (mB M) pc = .ok (.astore_n k, 1)) (hn : (k : Nat) < mL M) (hf : ((k : Nat), Value.ref x) :: lv.filter (fun q => !(q.1 == (k : Nat)) && !(q.1 + 1 == (k : Nat) && q.2.category == 2)) = lv') (kk : SP l X M (pc + 1) lv' st h sz bc bs Q) : SP l X M pc lv (.ref x :: st) h sz bc bs Q := fun p e s m args below meth c D cA A H locs cells slots ls hs C hh hP hD hS hz hl hc hs2 => lv_astore_n C.1 C.2.1 d rfl hl hn hf (fun ls hl => kk p e s m args below meth c D cA A H locs cells slots ls hs C hh hP hD hS hz hl hc hs2)
theorem sp_astore {l : Launch} {X : SCR} {M : MT} {pc : Nat} {lv : List (Nat × Value)} {st : List Value} {h : HP} {sz bc bs : Nat} {Q : PST} {i : Nat} {x : Nat} {lv' : List (Nat × Value)} (d : decode (mB M) pc = .ok (.astore i, 2)) (hn : i < mL M) (hf : (i, Value.ref x) :: lv.filter (fun q => !(q.1 == i) && !(q.1 + 1 == i && q.2.category == 2)) = lv') (kk : SP l X M (pc + 2) lv' st h sz bc bs Q) : SP l X M pc lv (.ref x :: st) h sz bc bs Q := fun p e s m args below meth c D cA A H locs cells slots ls hs C hh hP hD hS hz hl hc hs2 => lv_astore C.1 C.2.1 d hl hn hf (fun ls hl => kk p e s m args below meth c D cA A H locs cells slots ls hs C hh hP hD hS hz hl hc hs2)
theorem sp_iinc {l : Launch} {X : SCR} {M : MT} {pc : Nat} {lv : List (Nat × Value)} {st : List Value} {h : HP} {sz bc bs : Nat} {Q : PST} {i : Nat} {n : Int} {x v : Int32} {lv' : List (Nat × Value)} (d : decode (mB M) pc = .ok (.iinc i n, 3)) (j : Nat) (hv : lv[j]? = some (i, .int x)) (he : x + Int32.ofInt n = v) (hn : i < mL M) (hf : (i, Value.int v) :: lv.filter (fun q => !(q.1 == i) && !(q.1 + 1 == i && q.2.category == 2)) = lv') (kk : SP l X M (pc + 3) lv' st h sz bc bs Q) : SP l X M pc lv st h sz bc bs Q := fun p e s m args below meth c D cA A H locs cells slots ls hs C hh hP hD hS hz hl hc hs2 => lv_iinc C.1 C.2.1 d hl (k := j) hv he hn hf (fun ls hl => kk p e s m args below meth c D cA A H locs cells slots ls hs C hh hP hD hS hz hl hc hs2)
theorem sp_iconst {l : Launch} {X : SCR} {M : MT} {pc : Nat} {lv : List (Nat × Value)} {st : List Value} {h : HP} {sz bc bs : Nat} {Q : PST} {n : Int} {v : Int32} (d : decode (mB M) pc = .ok (.iconst n, 1)) (hv : Int32.ofInt n = v) (kk : SP l X M (pc + 1) lv (.int v :: st) h sz bc bs Q) : SP l X M pc lv st h sz bc bs Q := fun p e s m args below meth c D cA A H locs cells slots ls hs C hh hP hD hS hz hl hc hs2 => lv_iconst C.1 C.2.1 d hv (kk p e s m args below meth c D cA A H locs cells slots ls hs C hh hP hD hS hz hl hc hs2)
theorem sp_bipush {l : Launch} {X : SCR} {M : MT} {pc : Nat} {lv : List (Nat × Value)} {st : List Value} {h : HP} {sz bc bs : Nat} {Q : PST} {n : Int} {v : Int32} (d : decode (mB M) pc = .ok (.bipush n, 2)) (hv : (Int8.ofInt n).toInt32 = v) (kk : SP l X M (pc + 2) lv (.int v :: st) h sz bc bs Q) : SP l X M pc lv st h sz bc bs Q := fun p e s m args below meth c D cA A H locs cells slots ls hs C hh hP hD hS hz hl hc hs2 => lv_bipush C.1 C.2.1 d hv (kk p e s m args below meth c D cA A H locs cells slots ls hs C hh hP hD hS hz hl hc hs2)
theorem sp_sipush {l : Launch} {X : SCR} {M : MT} {pc : Nat} {lv : List (Nat × Value)} {st : List Value} {h : HP} {sz bc bs : Nat} {Q : PST} {n : Int} {v : Int32} (d : decode (mB M) pc = .ok (.sipush n, 3)) (hv : (Int16.ofInt n).toInt32 = v) (kk : SP l X M (pc + 3) lv (.int v :: st) h sz bc bs Q) : SP l X M pc lv st h sz bc bs Q := fun p e s m args below meth c D cA A H locs cells slots ls hs C hh hP hD hS hz hl hc hs2 => lv_sipush C.1 C.2.1 d hv (kk p e s m args below meth c D cA A H locs cells slots ls hs C hh hP hD hS hz hl hc hs2)
theorem sp_lconst {l : Launch} {X : SCR} {M : MT} {pc : Nat} {lv : List (Nat × Value)} {st : List Value} {h : HP} {sz bc bs : Nat} {Q : PST} {n : Fin 2} {v : Int64} (d : decode (mB M) pc = .ok (.lconst n, 1)) (hv : Int64.ofNat (n : Nat) = v) (kk : SP l X M (pc + 1) lv (.long v :: st) h sz bc bs Q) : SP l X M pc lv st h sz bc bs Q := fun p e s m args below meth c D cA A H locs cells slots ls hs C hh hP hD hS hz hl hc hs2 => lv_lconst C.1 C.2.1 d hv (kk p e s m args below meth c D cA A H locs cells slots ls hs C hh hP hD hS hz hl hc hs2)
theorem sp_ldc2 {l : Launch} {X : SCR} {M : MT} {pc : Nat} {lv : List (Nat × Value)} {st : List Value} {h : HP} {sz bc bs : Nat} {Q : PST} {idx : Nat} {v : Int64} (d : decode (mB M) pc = .ok (.ldc2_w idx, 3)) (hw : Cond.constantLong (mN M).cls idx v ∈ BIG) (kk : SP l X M (pc + 3) lv (.long v :: st) h sz bc bs Q) : SP l X M pc lv st h sz bc bs Q := fun p e s m args below meth c D cA A H locs cells slots ls hs C hh hP hD hS hz hl hc hs2 => lv_ldc2 C.1 C.2.1 C.2.2.2.2.1 (C.2.2.2.2.2.1 _ hw) d (kk p e s m args below meth c D cA A H locs cells slots ls hs C hh hP hD hS hz hl hc hs2)
theorem sp_iadd {l : Launch} {X : SCR} {M : MT} {pc : Nat} {lv : List (Nat × Value)} {st : List Value} {h : HP} {sz bc bs : Nat} {Q : PST} {x y : Int32} (d : decode (mB M) pc = .ok (.iadd, 1)) (kk : SP l X M (pc + 1) lv (.int (x + y) :: st) h sz bc bs Q) : SP l X M pc lv (.int y :: .int x :: st) h sz bc bs Q := fun p e s m args below meth c D cA A H locs cells slots ls hs C hh hP hD hS hz hl hc hs2 => lv_iadd C.1 C.2.1 d (kk p e s m args below meth c D cA A H locs cells slots ls hs C hh hP hD hS hz hl hc hs2)
theorem sp_isub {l : Launch} {X : SCR} {M : MT} {pc : Nat} {lv : List (Nat × Value)} {st : List Value} {h : HP} {sz bc bs : Nat} {Q : PST} {x y : Int32} (d : decode (mB M) pc = .ok (.isub, 1)) (kk : SP l X M (pc + 1) lv (.int (x - y) :: st) h sz bc bs Q) : SP l X M pc lv (.int y :: .int x :: st) h sz bc bs Q := fun p e s m args below meth c D cA A H locs cells slots ls hs C hh hP hD hS hz hl hc hs2 => lv_isub C.1 C.2.1 d (kk p e s m args below meth c D cA A H locs cells slots ls hs C hh hP hD hS hz hl hc hs2)
theorem sp_imul {l : Launch} {X : SCR} {M : MT} {pc : Nat} {lv : List (Nat × Value)} {st : List Value} {h : HP} {sz bc bs : Nat} {Q : PST} {x y : Int32} (d : decode (mB M) pc = .ok (.imul, 1)) (kk : SP l X M (pc + 1) lv (.int (x * y) :: st) h sz bc bs Q) : SP l X M pc lv (.int y :: .int x :: st) h sz bc bs Q := fun p e s m args below meth c D cA A H locs cells slots ls hs C hh hP hD hS hz hl hc hs2 => lv_imul C.1 C.2.1 d (kk p e s m args below meth c D cA A H locs cells slots ls hs C hh hP hD hS hz hl hc hs2)
theorem sp_iand {l : Launch} {X : SCR} {M : MT} {pc : Nat} {lv : List (Nat × Value)} {st : List Value} {h : HP} {sz bc bs : Nat} {Q : PST} {x y : Int32} (d : decode (mB M) pc = .ok (.iand, 1)) (kk : SP l X M (pc + 1) lv (.int (x &&& y) :: st) h sz bc bs Q) : SP l X M pc lv (.int y :: .int x :: st) h sz bc bs Q := fun p e s m args below meth c D cA A H locs cells slots ls hs C hh hP hD hS hz hl hc hs2 => lv_iand C.1 C.2.1 d (kk p e s m args below meth c D cA A H locs cells slots ls hs C hh hP hD hS hz hl hc hs2)
theorem sp_idiv {l : Launch} {X : SCR} {M : MT} {pc : Nat} {lv : List (Nat × Value)} {st : List Value} {h : HP} {sz bc bs : Nat} {Q : PST} {x y : Int32} (d : decode (mB M) pc = .ok (.idiv, 1)) (hne : ¬ y = 0) (kk : SP l X M (pc + 1) lv (.int (x / y) :: st) h sz bc bs Q) : SP l X M pc lv (.int y :: .int x :: st) h sz bc bs Q := fun p e s m args below meth c D cA A H locs cells slots ls hs C hh hP hD hS hz hl hc hs2 => lv_idiv C.1 C.2.1 d hne (kk p e s m args below meth c D cA A H locs cells slots ls hs C hh hP hD hS hz hl hc hs2)
theorem sp_irem {l : Launch} {X : SCR} {M : MT} {pc : Nat} {lv : List (Nat × Value)} {st : List Value} {h : HP} {sz bc bs : Nat} {Q : PST} {x y : Int32} (d : decode (mB M) pc = .ok (.irem, 1)) (hne : ¬ y = 0) (kk : SP l X M (pc + 1) lv (.int (x - x / y * y) :: st) h sz bc bs Q) : SP l X M pc lv (.int y :: .int x :: st) h sz bc bs Q := fun p e s m args below meth c D cA A H locs cells slots ls hs C hh hP hD hS hz hl hc hs2 => lv_irem C.1 C.2.1 d hne (kk p e s m args below meth c D cA A H locs cells slots ls hs C hh hP hD hS hz hl hc hs2)
theorem sp_ladd {l : Launch} {X : SCR} {M : MT} {pc : Nat} {lv : List (Nat × Value)} {st : List Value} {h : HP} {sz bc bs : Nat} {Q : PST} {x y : Int64} (d : decode (mB M) pc = .ok (.ladd, 1)) (kk : SP l X M (pc + 1) lv (.long (x + y) :: st) h sz bc bs Q) : SP l X M pc lv (.long y :: .long x :: st) h sz bc bs Q := fun p e s m args below meth c D cA A H locs cells slots ls hs C hh hP hD hS hz hl hc hs2 => lv_ladd C.1 C.2.1 d (kk p e s m args below meth c D cA A H locs cells slots ls hs C hh hP hD hS hz hl hc hs2)
theorem sp_lsub {l : Launch} {X : SCR} {M : MT} {pc : Nat} {lv : List (Nat × Value)} {st : List Value} {h : HP} {sz bc bs : Nat} {Q : PST} {x y : Int64} (d : decode (mB M) pc = .ok (.lsub, 1)) (kk : SP l X M (pc + 1) lv (.long (x - y) :: st) h sz bc bs Q) : SP l X M pc lv (.long y :: .long x :: st) h sz bc bs Q := fun p e s m args below meth c D cA A H locs cells slots ls hs C hh hP hD hS hz hl hc hs2 => lv_lsub C.1 C.2.1 d (kk p e s m args below meth c D cA A H locs cells slots ls hs C hh hP hD hS hz hl hc hs2)
theorem sp_lmul {l : Launch} {X : SCR} {M : MT} {pc : Nat} {lv : List (Nat × Value)} {st : List Value} {h : HP} {sz bc bs : Nat} {Q : PST} {x y : Int64} (d : decode (mB M) pc = .ok (.lmul, 1)) (kk : SP l X M (pc + 1) lv (.long (x * y) :: st) h sz bc bs Q) : SP l X M pc lv (.long y :: .long x :: st) h sz bc bs Q := fun p e s m args below meth c D cA A H locs cells slots ls hs C hh hP hD hS hz hl hc hs2 => lv_lmul C.1 C.2.1 d (kk p e s m args below meth c D cA A H locs cells slots ls hs C hh hP hD hS hz hl hc hs2)
theorem sp_land {l : Launch} {X : SCR} {M : MT} {pc : Nat} {lv : List (Nat × Value)} {st : List Value} {h : HP} {sz bc bs : Nat} {Q : PST} {x y : Int64} (d : decode (mB M) pc = .ok (.land, 1)) (kk : SP l X M (pc + 1) lv (.long (x &&& y) :: st) h sz bc bs Q) : SP l X M pc lv (.long y :: .long x :: st) h sz bc bs Q := fun p e s m args below meth c D cA A H locs cells slots ls hs C hh hP hD hS hz hl hc hs2 => lv_land C.1 C.2.1 d (kk p e s m args below meth c D cA A H locs cells slots ls hs C hh hP hD hS hz hl hc hs2)
theorem sp_lor {l : Launch} {X : SCR} {M : MT} {pc : Nat} {lv : List (Nat × Value)} {st : List Value} {h : HP} {sz bc bs : Nat} {Q : PST} {x y : Int64} (d : decode (mB M) pc = .ok (.lor, 1)) (kk : SP l X M (pc + 1) lv (.long (x ||| y) :: st) h sz bc bs Q) : SP l X M pc lv (.long y :: .long x :: st) h sz bc bs Q := fun p e s m args below meth c D cA A H locs cells slots ls hs C hh hP hD hS hz hl hc hs2 => lv_lor C.1 C.2.1 d (kk p e s m args below meth c D cA A H locs cells slots ls hs C hh hP hD hS hz hl hc hs2)
theorem sp_lxor {l : Launch} {X : SCR} {M : MT} {pc : Nat} {lv : List (Nat × Value)} {st : List Value} {h : HP} {sz bc bs : Nat} {Q : PST} {x y : Int64} (d : decode (mB M) pc = .ok (.lxor, 1)) (kk : SP l X M (pc + 1) lv (.long (x ^^^ y) :: st) h sz bc bs Q) : SP l X M pc lv (.long y :: .long x :: st) h sz bc bs Q := fun p e s m args below meth c D cA A H locs cells slots ls hs C hh hP hD hS hz hl hc hs2 => lv_lxor C.1 C.2.1 d (kk p e s m args below meth c D cA A H locs cells slots ls hs C hh hP hD hS hz hl hc hs2)
theorem sp_ldiv {l : Launch} {X : SCR} {M : MT} {pc : Nat} {lv : List (Nat × Value)} {st : List Value} {h : HP} {sz bc bs : Nat} {Q : PST} {x y : Int64} (d : decode (mB M) pc = .ok (.ldiv, 1)) (hne : ¬ y = 0) (kk : SP l X M (pc + 1) lv (.long (x / y) :: st) h sz bc bs Q) : SP l X M pc lv (.long y :: .long x :: st) h sz bc bs Q := fun p e s m args below meth c D cA A H locs cells slots ls hs C hh hP hD hS hz hl hc hs2 => lv_ldiv C.1 C.2.1 d hne (kk p e s m args below meth c D cA A H locs cells slots ls hs C hh hP hD hS hz hl hc hs2)
theorem sp_lrem {l : Launch} {X : SCR} {M : MT} {pc : Nat} {lv : List (Nat × Value)} {st : List Value} {h : HP} {sz bc bs : Nat} {Q : PST} {x y : Int64} (d : decode (mB M) pc = .ok (.lrem, 1)) (hne : ¬ y = 0) (kk : SP l X M (pc + 1) lv (.long (x - x / y * y) :: st) h sz bc bs Q) : SP l X M pc lv (.long y :: .long x :: st) h sz bc bs Q := fun p e s m args below meth c D cA A H locs cells slots ls hs C hh hP hD hS hz hl hc hs2 => lv_lrem C.1 C.2.1 d hne (kk p e s m args below meth c D cA A H locs cells slots ls hs C hh hP hD hS hz hl hc hs2)
theorem sp_lushr {l : Launch} {X : SCR} {M : MT} {pc : Nat} {lv : List (Nat × Value)} {st : List Value} {h : HP} {sz bc bs : Nat} {Q : PST} {x : Int64} {y : Int32} (d : decode (mB M) pc = .ok (.lushr, 1)) (kk : SP l X M (pc + 1) lv (.long (x.toUInt64 >>> (y.toInt64.toUInt64 &&& Int64.toUInt64 63)).toInt64 :: st) h sz bc bs Q) : SP l X M pc lv (.int y :: .long x :: st) h sz bc bs Q := fun p e s m args below meth c D cA A H locs cells slots ls hs C hh hP hD hS hz hl hc hs2 => lv_lushr C.1 C.2.1 d rfl (kk p e s m args below meth c D cA A H locs cells slots ls hs C hh hP hD hS hz hl hc hs2)
theorem sp_lshl {l : Launch} {X : SCR} {M : MT} {pc : Nat} {lv : List (Nat × Value)} {st : List Value} {h : HP} {sz bc bs : Nat} {Q : PST} {x : Int64} {y : Int32} (d : decode (mB M) pc = .ok (.lshl, 1)) (kk : SP l X M (pc + 1) lv (.long (x <<< (y.toInt64 &&& 63)) :: st) h sz bc bs Q) : SP l X M pc lv (.int y :: .long x :: st) h sz bc bs Q := fun p e s m args below meth c D cA A H locs cells slots ls hs C hh hP hD hS hz hl hc hs2 => lv_lshl C.1 C.2.1 d rfl (kk p e s m args below meth c D cA A H locs cells slots ls hs C hh hP hD hS hz hl hc hs2)
theorem sp_i2l {l : Launch} {X : SCR} {M : MT} {pc : Nat} {lv : List (Nat × Value)} {st : List Value} {h : HP} {sz bc bs : Nat} {Q : PST} {x : Int32} (d : decode (mB M) pc = .ok (.i2l, 1)) (kk : SP l X M (pc + 1) lv (.long x.toInt64 :: st) h sz bc bs Q) : SP l X M pc lv (.int x :: st) h sz bc bs Q := fun p e s m args below meth c D cA A H locs cells slots ls hs C hh hP hD hS hz hl hc hs2 => lv_i2l C.1 C.2.1 d rfl (kk p e s m args below meth c D cA A H locs cells slots ls hs C hh hP hD hS hz hl hc hs2)
theorem sp_l2i {l : Launch} {X : SCR} {M : MT} {pc : Nat} {lv : List (Nat × Value)} {st : List Value} {h : HP} {sz bc bs : Nat} {Q : PST} {x : Int64} (d : decode (mB M) pc = .ok (.l2i, 1)) (kk : SP l X M (pc + 1) lv (.int x.toInt32 :: st) h sz bc bs Q) : SP l X M pc lv (.long x :: st) h sz bc bs Q := fun p e s m args below meth c D cA A H locs cells slots ls hs C hh hP hD hS hz hl hc hs2 => lv_l2i C.1 C.2.1 d rfl (kk p e s m args below meth c D cA A H locs cells slots ls hs C hh hP hD hS hz hl hc hs2)
theorem sp_lcmp {l : Launch} {X : SCR} {M : MT} {pc : Nat} {lv : List (Nat × Value)} {st : List Value} {h : HP} {sz bc bs : Nat} {Q : PST} {x y : Int64} (d : decode (mB M) pc = .ok (.lcmp, 1)) (kk : SP l X M (pc + 1) lv (.int (lg_cmp x y) :: st) h sz bc bs Q) : SP l X M pc lv (.long y :: .long x :: st) h sz bc bs Q := fun p e s m args below meth c D cA A H locs cells slots ls hs C hh hP hD hS hz hl hc hs2 => W.lcmp C.1 C.2.1 d (kk p e s m args below meth c D cA A H locs cells slots ls hs C hh hP hD hS hz hl hc hs2)
theorem sp_dup {l : Launch} {X : SCR} {M : MT} {pc : Nat} {lv : List (Nat × Value)} {st : List Value} {h : HP} {sz bc bs : Nat} {Q : PST} {v : Value} (d : decode (mB M) pc = .ok (.dup, 1)) (hv : v.category = 1) (kk : SP l X M (pc + 1) lv (v :: v :: st) h sz bc bs Q) : SP l X M pc lv (v :: st) h sz bc bs Q := fun p e s m args below meth c D cA A H locs cells slots ls hs C hh hP hD hS hz hl hc hs2 => lv_dup C.1 C.2.1 d hv (kk p e s m args below meth c D cA A H locs cells slots ls hs C hh hP hD hS hz hl hc hs2)
theorem sp_pop {l : Launch} {X : SCR} {M : MT} {pc : Nat} {lv : List (Nat × Value)} {st : List Value} {h : HP} {sz bc bs : Nat} {Q : PST} {v : Value} (d : decode (mB M) pc = .ok (.pop, 1)) (hv : v.category = 1) (kk : SP l X M (pc + 1) lv st h sz bc bs Q) : SP l X M pc lv (v :: st) h sz bc bs Q := fun p e s m args below meth c D cA A H locs cells slots ls hs C hh hP hD hS hz hl hc hs2 => lv_pop C.1 C.2.1 d hv (kk p e s m args below meth c D cA A H locs cells slots ls hs C hh hP hD hS hz hl hc hs2)
theorem sp_dup2 {l : Launch} {X : SCR} {M : MT} {pc : Nat} {lv : List (Nat × Value)} {st : List Value} {h : HP} {sz bc bs : Nat} {Q : PST} {v w : Value} (d : decode (mB M) pc = .ok (.dup2, 1)) (hv : v.category = 1) (hw : w.category = 1) (kk : SP l X M (pc + 1) lv (v :: w :: v :: w :: st) h sz bc bs Q) : SP l X M pc lv (v :: w :: st) h sz bc bs Q := fun p e s m args below meth c D cA A H locs cells slots ls hs C hh hP hD hS hz hl hc hs2 => lv_dup2_11 C.1 C.2.1 d hv hw (kk p e s m args below meth c D cA A H locs cells slots ls hs C hh hP hD hS hz hl hc hs2)
theorem sp_goto {l : Launch} {X : SCR} {M : MT} {pc : Nat} {lv : List (Nat × Value)} {st : List Value} {h : HP} {sz bc bs : Nat} {Q : PST} {off : Int} {tgt : Nat} (d : decode (mB M) pc = .ok (.goto off, 3)) (ht : (pc : Int) + off = (tgt : Int)) (kk : SP l X M tgt lv st h sz bc bs Q) : SP l X M pc lv st h sz bc bs Q := fun p e s m args below meth c D cA A H locs cells slots ls hs C hh hP hD hS hz hl hc hs2 => lv_goto C.1 C.2.1 d ht (kk p e s m args below meth c D cA A H locs cells slots ls hs C hh hP hD hS hz hl hc hs2)
theorem sp_icmp_eq {l : Launch} {X : SCR} {M : MT} {pc : Nat} {lv : List (Nat × Value)} {st : List Value} {h : HP} {sz bc bs : Nat} {Q : PST} {x y : Int32} {off : Int} {tgt : Nat} (d : decode (mB M) pc = .ok (.if_icmp .eq off, 3)) (ht : (pc : Int) + off = (tgt : Int)) (kt : x = y → SP l X M tgt lv st h sz bc bs Q) (kf : ¬ x = y → SP l X M (pc + 3) lv st h sz bc bs Q) : SP l X M pc lv (.int y :: .int x :: st) h sz bc bs Q := fun p e s m args below meth c D cA A H locs cells slots ls hs C hh hP hD hS hz hl hc hs2 => lv_icmp_eq C.1 C.2.1 d ht (fun z => (kt z p e s m args below meth c D cA A H locs cells slots ls hs C hh hP hD hS hz hl hc hs2)) (fun z => (kf z p e s m args below meth c D cA A H locs cells slots ls hs C hh hP hD hS hz hl hc hs2))
theorem sp_icmp_ne {l : Launch} {X : SCR} {M : MT} {pc : Nat} {lv : List (Nat × Value)} {st : List Value} {h : HP} {sz bc bs : Nat} {Q : PST} {x y : Int32} {off : Int} {tgt : Nat} (d : decode (mB M) pc = .ok (.if_icmp .ne off, 3)) (ht : (pc : Int) + off = (tgt : Int)) (kt : ¬ x = y → SP l X M tgt lv st h sz bc bs Q) (kf : x = y → SP l X M (pc + 3) lv st h sz bc bs Q) : SP l X M pc lv (.int y :: .int x :: st) h sz bc bs Q := fun p e s m args below meth c D cA A H locs cells slots ls hs C hh hP hD hS hz hl hc hs2 => lv_icmp_ne C.1 C.2.1 d ht (fun z => (kt z p e s m args below meth c D cA A H locs cells slots ls hs C hh hP hD hS hz hl hc hs2)) (fun z => (kf z p e s m args below meth c D cA A H locs cells slots ls hs C hh hP hD hS hz hl hc hs2))
theorem sp_icmp_lt {l : Launch} {X : SCR} {M : MT} {pc : Nat} {lv : List (Nat × Value)} {st : List Value} {h : HP} {sz bc bs : Nat} {Q : PST} {x y : Int32} {off : Int} {tgt : Nat} (d : decode (mB M) pc = .ok (.if_icmp .lt off, 3)) (ht : (pc : Int) + off = (tgt : Int)) (kt : x < y → SP l X M tgt lv st h sz bc bs Q) (kf : ¬ x < y → SP l X M (pc + 3) lv st h sz bc bs Q) : SP l X M pc lv (.int y :: .int x :: st) h sz bc bs Q := fun p e s m args below meth c D cA A H locs cells slots ls hs C hh hP hD hS hz hl hc hs2 => lv_icmp_lt C.1 C.2.1 d ht (fun z => (kt z p e s m args below meth c D cA A H locs cells slots ls hs C hh hP hD hS hz hl hc hs2)) (fun z => (kf z p e s m args below meth c D cA A H locs cells slots ls hs C hh hP hD hS hz hl hc hs2))
theorem sp_icmp_ge {l : Launch} {X : SCR} {M : MT} {pc : Nat} {lv : List (Nat × Value)} {st : List Value} {h : HP} {sz bc bs : Nat} {Q : PST} {x y : Int32} {off : Int} {tgt : Nat} (d : decode (mB M) pc = .ok (.if_icmp .ge off, 3)) (ht : (pc : Int) + off = (tgt : Int)) (kt : y ≤ x → SP l X M tgt lv st h sz bc bs Q) (kf : ¬ y ≤ x → SP l X M (pc + 3) lv st h sz bc bs Q) : SP l X M pc lv (.int y :: .int x :: st) h sz bc bs Q := fun p e s m args below meth c D cA A H locs cells slots ls hs C hh hP hD hS hz hl hc hs2 => lv_icmp_ge C.1 C.2.1 d ht (fun z => (kt z p e s m args below meth c D cA A H locs cells slots ls hs C hh hP hD hS hz hl hc hs2)) (fun z => (kf z p e s m args below meth c D cA A H locs cells slots ls hs C hh hP hD hS hz hl hc hs2))
theorem sp_icmp_gt {l : Launch} {X : SCR} {M : MT} {pc : Nat} {lv : List (Nat × Value)} {st : List Value} {h : HP} {sz bc bs : Nat} {Q : PST} {x y : Int32} {off : Int} {tgt : Nat} (d : decode (mB M) pc = .ok (.if_icmp .gt off, 3)) (ht : (pc : Int) + off = (tgt : Int)) (kt : y < x → SP l X M tgt lv st h sz bc bs Q) (kf : ¬ y < x → SP l X M (pc + 3) lv st h sz bc bs Q) : SP l X M pc lv (.int y :: .int x :: st) h sz bc bs Q := fun p e s m args below meth c D cA A H locs cells slots ls hs C hh hP hD hS hz hl hc hs2 => lv_icmp_gt C.1 C.2.1 d ht (fun z => (kt z p e s m args below meth c D cA A H locs cells slots ls hs C hh hP hD hS hz hl hc hs2)) (fun z => (kf z p e s m args below meth c D cA A H locs cells slots ls hs C hh hP hD hS hz hl hc hs2))
theorem sp_icmp_le {l : Launch} {X : SCR} {M : MT} {pc : Nat} {lv : List (Nat × Value)} {st : List Value} {h : HP} {sz bc bs : Nat} {Q : PST} {x y : Int32} {off : Int} {tgt : Nat} (d : decode (mB M) pc = .ok (.if_icmp .le off, 3)) (ht : (pc : Int) + off = (tgt : Int)) (kt : x ≤ y → SP l X M tgt lv st h sz bc bs Q) (kf : ¬ x ≤ y → SP l X M (pc + 3) lv st h sz bc bs Q) : SP l X M pc lv (.int y :: .int x :: st) h sz bc bs Q := fun p e s m args below meth c D cA A H locs cells slots ls hs C hh hP hD hS hz hl hc hs2 => lv_icmp_le C.1 C.2.1 d ht (fun z => (kt z p e s m args below meth c D cA A H locs cells slots ls hs C hh hP hD hS hz hl hc hs2)) (fun z => (kf z p e s m args below meth c D cA A H locs cells slots ls hs C hh hP hD hS hz hl hc hs2))
theorem sp_if_eq {l : Launch} {X : SCR} {M : MT} {pc : Nat} {lv : List (Nat × Value)} {st : List Value} {h : HP} {sz bc bs : Nat} {Q : PST} {x : Int32} {off : Int} {tgt : Nat} (d : decode (mB M) pc = .ok (.ifCond .eq off, 3)) (ht : (pc : Int) + off = (tgt : Int)) (kt : x = 0 → SP l X M tgt lv st h sz bc bs Q) (kf : ¬ x = 0 → SP l X M (pc + 3) lv st h sz bc bs Q) : SP l X M pc lv (.int x :: st) h sz bc bs Q := fun p e s m args below meth c D cA A H locs cells slots ls hs C hh hP hD hS hz hl hc hs2 => lv_if_eq C.1 C.2.1 d ht (fun z => (kt z p e s m args below meth c D cA A H locs cells slots ls hs C hh hP hD hS hz hl hc hs2)) (fun z => (kf z p e s m args below meth c D cA A H locs cells slots ls hs C hh hP hD hS hz hl hc hs2))
theorem sp_if_ne {l : Launch} {X : SCR} {M : MT} {pc : Nat} {lv : List (Nat × Value)} {st : List Value} {h : HP} {sz bc bs : Nat} {Q : PST} {x : Int32} {off : Int} {tgt : Nat} (d : decode (mB M) pc = .ok (.ifCond .ne off, 3)) (ht : (pc : Int) + off = (tgt : Int)) (kt : ¬ x = 0 → SP l X M tgt lv st h sz bc bs Q) (kf : x = 0 → SP l X M (pc + 3) lv st h sz bc bs Q) : SP l X M pc lv (.int x :: st) h sz bc bs Q := fun p e s m args below meth c D cA A H locs cells slots ls hs C hh hP hD hS hz hl hc hs2 => lv_if_ne C.1 C.2.1 d ht (fun z => (kt z p e s m args below meth c D cA A H locs cells slots ls hs C hh hP hD hS hz hl hc hs2)) (fun z => (kf z p e s m args below meth c D cA A H locs cells slots ls hs C hh hP hD hS hz hl hc hs2))
theorem sp_if_lt {l : Launch} {X : SCR} {M : MT} {pc : Nat} {lv : List (Nat × Value)} {st : List Value} {h : HP} {sz bc bs : Nat} {Q : PST} {x : Int32} {off : Int} {tgt : Nat} (d : decode (mB M) pc = .ok (.ifCond .lt off, 3)) (ht : (pc : Int) + off = (tgt : Int)) (kt : x < 0 → SP l X M tgt lv st h sz bc bs Q) (kf : ¬ x < 0 → SP l X M (pc + 3) lv st h sz bc bs Q) : SP l X M pc lv (.int x :: st) h sz bc bs Q := fun p e s m args below meth c D cA A H locs cells slots ls hs C hh hP hD hS hz hl hc hs2 => lv_if_lt C.1 C.2.1 d ht (fun z => (kt z p e s m args below meth c D cA A H locs cells slots ls hs C hh hP hD hS hz hl hc hs2)) (fun z => (kf z p e s m args below meth c D cA A H locs cells slots ls hs C hh hP hD hS hz hl hc hs2))
theorem sp_if_ge {l : Launch} {X : SCR} {M : MT} {pc : Nat} {lv : List (Nat × Value)} {st : List Value} {h : HP} {sz bc bs : Nat} {Q : PST} {x : Int32} {off : Int} {tgt : Nat} (d : decode (mB M) pc = .ok (.ifCond .ge off, 3)) (ht : (pc : Int) + off = (tgt : Int)) (kt : 0 ≤ x → SP l X M tgt lv st h sz bc bs Q) (kf : ¬ 0 ≤ x → SP l X M (pc + 3) lv st h sz bc bs Q) : SP l X M pc lv (.int x :: st) h sz bc bs Q := fun p e s m args below meth c D cA A H locs cells slots ls hs C hh hP hD hS hz hl hc hs2 => lv_if_ge C.1 C.2.1 d ht (fun z => (kt z p e s m args below meth c D cA A H locs cells slots ls hs C hh hP hD hS hz hl hc hs2)) (fun z => (kf z p e s m args below meth c D cA A H locs cells slots ls hs C hh hP hD hS hz hl hc hs2))
theorem sp_if_gt {l : Launch} {X : SCR} {M : MT} {pc : Nat} {lv : List (Nat × Value)} {st : List Value} {h : HP} {sz bc bs : Nat} {Q : PST} {x : Int32} {off : Int} {tgt : Nat} (d : decode (mB M) pc = .ok (.ifCond .gt off, 3)) (ht : (pc : Int) + off = (tgt : Int)) (kt : 0 < x → SP l X M tgt lv st h sz bc bs Q) (kf : ¬ 0 < x → SP l X M (pc + 3) lv st h sz bc bs Q) : SP l X M pc lv (.int x :: st) h sz bc bs Q := fun p e s m args below meth c D cA A H locs cells slots ls hs C hh hP hD hS hz hl hc hs2 => lv_if_gt C.1 C.2.1 d ht (fun z => (kt z p e s m args below meth c D cA A H locs cells slots ls hs C hh hP hD hS hz hl hc hs2)) (fun z => (kf z p e s m args below meth c D cA A H locs cells slots ls hs C hh hP hD hS hz hl hc hs2))
theorem sp_if_le {l : Launch} {X : SCR} {M : MT} {pc : Nat} {lv : List (Nat × Value)} {st : List Value} {h : HP} {sz bc bs : Nat} {Q : PST} {x : Int32} {off : Int} {tgt : Nat} (d : decode (mB M) pc = .ok (.ifCond .le off, 3)) (ht : (pc : Int) + off = (tgt : Int)) (kt : x ≤ 0 → SP l X M tgt lv st h sz bc bs Q) (kf : ¬ x ≤ 0 → SP l X M (pc + 3) lv st h sz bc bs Q) : SP l X M pc lv (.int x :: st) h sz bc bs Q := fun p e s m args below meth c D cA A H locs cells slots ls hs C hh hP hD hS hz hl hc hs2 => lv_if_le C.1 C.2.1 d ht (fun z => (kt z p e s m args below meth c D cA A H locs cells slots ls hs C hh hP hD hS hz hl hc hs2)) (fun z => (kf z p e s m args below meth c D cA A H locs cells slots ls hs C hh hP hD hS hz hl hc hs2))
theorem sp_tableIn {l : Launch} {X : SCR} {M : MT} {pc : Nat} {lv : List (Nat × Value)} {st : List Value} {h : HP} {sz bc bs : Nat} {Q : PST} {dflt lo hi : Int} {offs : Array Int} {len : Nat} {x : Int32} {off : Int} {tgt : Nat} (d : decode (mB M) pc = .ok (.tableswitch dflt lo hi offs, len)) (h1 : ¬ x.toInt < lo) (h2 : ¬ hi < x.toInt) (ho : offs[(x.toInt - lo).toNat]? = some off) (ht : (pc : Int) + off = (tgt : Int)) (kk : SP l X M tgt lv st h sz bc bs Q) : SP l X M pc lv (.int x :: st) h sz bc bs Q := fun p e s m args below meth c D cA A H locs cells slots ls hs C hh hP hD hS hz hl hc hs2 => lv_tableIn C.1 C.2.1 d h1 h2 ho ht (kk p e s m args below meth c D cA A H locs cells slots ls hs C hh hP hD hS hz hl hc hs2)
theorem sp_tableOut {l : Launch} {X : SCR} {M : MT} {pc : Nat} {lv : List (Nat × Value)} {st : List Value} {h : HP} {sz bc bs : Nat} {Q : PST} {dflt lo hi : Int} {offs : Array Int} {len : Nat} {x : Int32} {tgt : Nat} (d : decode (mB M) pc = .ok (.tableswitch dflt lo hi offs, len)) (h1 : x.toInt < lo ∨ hi < x.toInt) (ht : (pc : Int) + dflt = (tgt : Int)) (kk : SP l X M tgt lv st h sz bc bs Q) : SP l X M pc lv (.int x :: st) h sz bc bs Q := fun p e s m args below meth c D cA A H locs cells slots ls hs C hh hP hD hS hz hl hc hs2 => lv_tableOut C.1 C.2.1 d h1 ht (kk p e s m args below meth c D cA A H locs cells slots ls hs C hh hP hD hS hz hl hc hs2)
theorem sp_lookup {l : Launch} {X : SCR} {M : MT} {pc : Nat} {lv : List (Nat × Value)} {st : List Value} {h : HP} {sz bc bs : Nat} {Q : PST} {dflt : Int} {ps : Array (Int × Int)} {len : Nat} {x : Int32} {off : Int} {tgt : Nat} (d : decode (mB M) pc = .ok (.lookupswitch dflt ps, len)) (hp : (ps.toList.zip (ps.toList.drop 1)).all (fun (a, next) => a.1 < next.1) = true) (ho : Op.lookupswitch.offset ps.toList dflt x.toInt = off) (ht : (pc : Int) + off = (tgt : Int)) (kk : SP l X M tgt lv st h sz bc bs Q) : SP l X M pc lv (.int x :: st) h sz bc bs Q := fun p e s m args below meth c D cA A H locs cells slots ls hs C hh hP hD hS hz hl hc hs2 => lv_lookup C.1 C.2.1 d hp ho ht (kk p e s m args below meth c D cA A H locs cells slots ls hs C hh hP hD hS hz hl hc hs2)
theorem sp_ireturn {l : Launch} {X : SCR} {M : MT} {pc : Nat} {lv : List (Nat × Value)} {h : HP} {sz bc bs : Nat} {Q : PST} {ty : FieldType} {v : Int32} (d : decode (mB M) pc = .ok (.ireturn, 1)) (hr : mRt M = some ty) (hn : narrow ty (.int v) = .int v) (hq : Q (.inl (some (.int v))) h sz) : SP l X M pc lv [.int v] h sz bc bs Q := fun p e s m args below meth c D cA A H locs cells slots ls hs C hh hP hD hS hz hl hc hs2 => W.widen (k := (mRm M).cells) (n := (mRm M).slots) (by omega) (by omega) (vx_ret (W.zret C.1 C.2.1 (C.2.2.2.1.trans hr) hn (fun t ht hW => ⟨⟨_, hs, rfl, by rw [ht, hz, ← hh]; exact hq, by rw [ht]; exact hP, hD⟩, hS.F ht⟩) hS.2.2 d C.2.2.2.2.2.2.1))
theorem sp_lreturn {l : Launch} {X : SCR} {M : MT} {pc : Nat} {lv : List (Nat × Value)} {h : HP} {sz bc bs : Nat} {Q : PST} {v : Int64} (d : decode (mB M) pc = .ok (.lreturn, 1)) (hr : mRt M = some .long) (hq : Q (.inl (some (.long v))) h sz) : SP l X M pc lv [.long v] h sz bc bs Q := fun p e s m args below meth c D cA A H locs cells slots ls hs C hh hP hD hS hz hl hc hs2 => W.widen (k := (mRm M).cells) (n := (mRm M).slots) (by omega) (by omega) (vx_ret (W.lret C.1 C.2.1 (C.2.2.2.1.trans hr) (fun t ht hW => ⟨⟨_, hs, rfl, by rw [ht, hz, ← hh]; exact hq, by rw [ht]; exact hP, hD⟩, hS.F ht⟩) hS.2.2 d C.2.2.2.2.2.2.1))
theorem sp_return {l : Launch} {X : SCR} {M : MT} {pc : Nat} {lv : List (Nat × Value)} {h : HP} {sz bc bs : Nat} {Q : PST} (d : decode (mB M) pc = .ok (.return_, 1)) (hr : mRt M = none) (hq : Q (.inl none) h sz) : SP l X M pc lv [] h sz bc bs Q := fun p e s m args below meth c D cA A H locs cells slots ls hs C hh hP hD hS hz hl hc hs2 => W.widen (k := (mRm M).cells) (n := (mRm M).slots) (by omega) (by omega) (vx_ret (W.vret C.1 C.2.1 (C.2.2.2.1.trans hr) (fun t ht hW => ⟨⟨_, hs, rfl, by rw [ht, hz, ← hh]; exact hq, by rw [ht]; exact hP, hD⟩, hS.F ht⟩) hS.2.2 d C.2.2.2.2.2.2.1))
end
section

def FLD (ci : Nat) (own : String) (idx kf : Nat) : Prop := ∃ (C : String) (T : u_T) (N : Nat), vwCl[ci]? = some (C, T, N) ∧ kf < N ∧ (∀ w ∈ u_ws C T N, w ∈ BIG) ∧ (T kf).1 = C ∧ (Cond.fieldLink own idx C (T kf).2.1 (T kf).2.2.1 ∈ BIG ∨ ∃ host, Cond.fieldLinkNest own idx C (T kf).2.1 (T kf).2.2.1 host ∈ lw_tbl)
def PFL (ci : Nat) (own : String) (idx kf : Nat) (ty : FieldType) (fin : Bool) : Prop := ∃ (C : String) (T : u_T) (N : Nat) (ty0 : Nat → FieldType), vwCl[ci]? = some (C, T, N) ∧ kf < N ∧ (∀ w ∈ u_ws C T N, w ∈ BIG) ∧ (T kf).1 = C ∧ Cond.fieldLink own idx C (T kf).2.1 (T kf).2.2.1 ∈ BIG ∧ (∀ k, k < N → parseFieldDescriptor (T k).2.2.1 = some (ty0 k)) ∧ (∀ a, a < N → ∀ b, b < N → a ≠ b → (T a).2.1 ≠ (T b).2.1) ∧ ty0 kf = ty ∧ (T kf).2.2.2 = fin ∧ (fin = true → C = own)

theorem sp_get {l : Launch} {X : SCR} {M : MT} {pc : Nat} {lv : List (Nat × Value)} {st : List Value} {h : HP} {sz bc bs : Nat} {Q : PST} {ci idx kf a : Nat} {fs : List Value} {v : Value} (hf : FLD ci (mN M).cls idx kf) (d : decode (mB M) pc = .ok (.getfield idx, 3)) (ha : h a = some (.inr (ci, fs))) (hv : fs[kf]? = some v) (kk : SP l X M (pc + 3) lv (v :: st) h sz bc bs Q) : SP l X M pc lv (.ref a :: st) h sz bc bs Q := by
  intro p e s m args below meth c D cA A H locs cells slots ls hs C hh hP hD hS hz hl hc hs2
  obtain ⟨C0, T, N, e1, e2, e3, e4, e5⟩ := hf
  obtain ⟨k0, hk0⟩ := hget_at (hs := hs) (by rw [← hh]; exact ha)
  have he := cvS_at (cA := cA) hk0
  rcases e5 with e5 | ⟨host, e5⟩
  · exact va_get C.1 C.2.1 C.2.2.2.2.2.1 e3 C.2.2.2.2.1 C.2.2.2.2.2.2.2.2.2.1.1 hP k0 he e1 kf e2 (C.2.2.2.2.2.1 _ e5) (fun x hx => by rw [e4] at hx; exact hx) hv d (kk p e s m args below meth c D cA A H locs cells slots ls hs C hh hP hD hS hz hl hc hs2)
  · exact va_getN C.1 C.2.1 C.2.2.2.2.2.1 e3 C.2.2.2.2.1 C.2.2.2.2.2.2.2.2.2.1.1 hP k0 he e1 kf e2 (va_Nw.use rfl (C.2.2.2.2.2.2.2.2.2.1.2.1 _ e5 rfl)) (fun x hx => by rw [e4] at hx; exact hx) hv d (kk p e s m args below meth c D cA A H locs cells slots ls hs C hh hP hD hS hz hl hc hs2)
theorem sp_put {l : Launch} {X : SCR} {M : MT} {pc : Nat} {lv : List (Nat × Value)} {st : List Value} {h : HP} {sz bc bs : Nat} {Q : PST} {ci idx kf a : Nat} {fs : List Value} {v : Value} {ty : FieldType} (hf : PFL ci (mN M).cls idx kf ty false) (d : decode (mB M) pc = .ok (.putfield idx, 3)) (ha : h a = some (.inr (ci, fs))) (hlen : kf < fs.length) (hn : narrow ty v = v) (hfit : fits ty v = true) (kk : ∀ sz', SP l X M (pc + 3) lv st (hup h a (.inr (ci, fs.set kf v))) sz' bc bs Q) : SP l X M pc lv (v :: .ref a :: st) h sz bc bs Q := by
  intro p e s m args below meth c D cA A H locs cells slots ls hs C hh hP hD hS hz hl hc hs2
  obtain ⟨C0, T, N, ty0, e1, e2, e3, e4, e5, e6, e7, e8, e9, -⟩ := hf
  obtain ⟨k0, hk0⟩ := hget_at (hs := hs) (by rw [← hh]; exact ha)
  have he := cvS_at (cA := cA) hk0
  refine va_put C.1 C.2.1 C.2.2.2.2.2.1 e3 ty0 e6 e7 C.2.2.2.2.1 C.2.2.2.2.2.2.2.2.2.1.1 hP hD hS k0 he e1 kf e2 (C.2.2.2.2.2.1 _ e5) (fun x hx => by rw [e4] at hx; exact hx) e9 (ty := ty) (by rw [e6 kf e2, e8]) hn hfit hlen d (fun H1 locs1 hP1 hD1 hS1 => ?_)
  rw [show (Sum.inr (ci, fs.set kf v) : va_E) = cvE cA (.inr (ci, fs.set kf v)) from rfl, cvS_set] at hP1 hD1
  exact (kk H1.size p e s m args below meth c D cA A H1 locs1 cells slots ls _ C (by rw [hh, (hget_set (hnd_of hD) hk0).2]) hP1 hD1 hS1 rfl hl hc hs2)
theorem sp_putF {l : Launch} {X : SCR} {M : MT} {pc : Nat} {lv : List (Nat × Value)} {st : List Value} {h : HP} {sz bc bs : Nat} {Q : PST} {ci idx kf a : Nat} {fs : List Value} {v : Value} {ty : FieldType} (hf : PFL ci (mN M).cls idx kf ty true) (hini : (mN M).name = "<init>") (d : decode (mB M) pc = .ok (.putfield idx, 3)) (ha : h a = some (.inr (ci, fs))) (hlen : kf < fs.length) (hn : narrow ty v = v) (hfit : fits ty v = true) (kk : SP l X M (pc + 3) lv st (hup h a (.inr (ci, fs.set kf v))) sz bc bs Q) : SP l X M pc lv (v :: .ref a :: st) h sz bc bs Q := by
  intro p e s m args below meth c D cA A H locs cells slots ls hs C hh hP hD hS hz hl hc hs2
  obtain ⟨C0, T, N, ty0, hc0, hk, hin, hdecl, hlink, hty, hnm, hty2, hfin, hown2⟩ := hf
  obtain ⟨k0, hk0⟩ := hget_at (hs := hs) (by rw [← hh]; exact ha)
  have he := cvS_at (cA := cA) hk0
  have hap := va_apart (own := (mN M).cls) C.2.2.2.2.2.1 hin ty0 hty hnm C.2.2.2.2.2.2.2.2.2.1.1 hc0
  obtain ⟨r, h1, cell, q1, q2, q3, q4⟩ := hP k0 _ he
  have hr : r = (C0, T, N) := Option.some.inj (h1.symm.trans hc0)
  subst hr
  obtain ⟨hSl, hfc, kC, hkC, hkind⟩ := C.2.2.2.2.2.2.2.2.2.1.1.1 ci _ hc0
  obtain ⟨cf, kff, fi, f, hi, hsl⟩ := hSl kf hk
  have hlay := C.2.2.2.2.2.1 _ (hin _ (u_in_lay hk))
  unfold u_lay at hlay
  rw [if_pos hfin] at hlay
  have hst := (u_facts hfc hkC (u_lays C.2.2.2.2.2.1 hin hk) hi).1
  have hcf : m.cls = cf := by
    obtain ⟨_, _, c', _, _, _, -, -, hf', -, -, -, hown3, -⟩ := Cond.laysFinal_spec hlay
    have e1 : c' = cf := by have := hi.symm.trans hf'; simp at this; exact this.1.symm
    rw [hdecl, hown2 rfl] at hown3
    rw [← e1]; exact Option.some.inj (C.2.2.2.2.1.symm.trans hown3)
  have h6 := u_fits hfc hkC hkind (Or.inr hlay) hi (by rw [hty kf hk, hty2]) hn hfit
  refine W.putFinK C.1 C.2.1 C.2.2.2.2.1 (C.2.2.2.2.2.1 _ hlink) (show s.fieldFound? C0 _ _ = some _ by rw [hdecl] at hi; exact hi) hst hcf (C.2.2.2.2.2.2.2.1 hini) (by rw [q2]; exact h6) q1 q3 (by rw [hsl]; exact k2_hasslot (q4 kf hk)) rfl rfl d fun H' e1 e2 e3 => ?_
  rw [hsl] at e1 ⊢
  have hP1 := hP.set (e := (Sum.inr (ci, fs.set kf v) : va_E)) hD he ⟨_, hc0, t_OB.to (V := updV (vp_V fs) kf v) ⟨_, e1, q2, q3, t_set q4 hap hk v⟩ (fun j _ => vp_updV_set hlen v j)⟩ e3
  have hD1 := hD.set (e := (Sum.inr (ci, fs.set kf v) : va_E)) he
  rw [show (Sum.inr (ci, fs.set kf v) : va_E) = cvE cA (.inr (ci, fs.set kf v)) from rfl, cvS_set] at hP1 hD1
  exact kk p e s m args below meth c D cA A H' _ cells slots ls _ C (by rw [hh, (hget_set (hnd_of hD) hk0).2]) hP1 hD1 (hS.put e2 e3 (hD.2 k0 _ he)) (e2.trans hz) hl hc hs2
theorem sp_putX {l : Launch} {X : SCR} {M : MT} {pc : Nat} {lv : List (Nat × Value)} {st : List Value} {h : HP} {sz bc bs : Nat} {Q : PST} {ci idx kf a : Nat} {fs : List Value} {v : Value} {ty : FieldType} (hf : PFL ci (mN M).cls idx kf ty false) (d : decode (mB M) pc = .ok (.putfield idx, 3)) (ha : h a = some (.inr (ci, fs))) (hlen : kf < fs.length) (hn : narrow ty v = v) (hfit : fits ty v = true) (kk : SP l X M (pc + 3) lv st (hup h a (.inr (ci, fs.set kf v))) sz bc bs Q) : SP l X M pc lv (v :: .ref a :: st) h sz bc bs Q := by
  intro p e s m args below meth c D cA A H locs cells slots ls hs C hh hP hD hS hz hl hc hs2
  obtain ⟨C0, T, N, ty0, hc0, hk, hin, hdecl, hlink, hty, hnm, hty2, hfin, hown2⟩ := hf
  obtain ⟨k0, hk0⟩ := hget_at (hs := hs) (by rw [← hh]; exact ha)
  have he := cvS_at (cA := cA) hk0
  have hap := va_apart (own := (mN M).cls) C.2.2.2.2.2.1 hin ty0 hty hnm C.2.2.2.2.2.2.2.2.2.1.1 hc0
  obtain ⟨r, h1, cell, q1, q2, q3, q4⟩ := hP k0 _ he
  have hr : r = (C0, T, N) := Option.some.inj (h1.symm.trans hc0)
  subst hr
  obtain ⟨hSl, hfc, kC, hkC, hkind⟩ := C.2.2.2.2.2.2.2.2.2.1.1.1 ci _ hc0
  obtain ⟨cf, kff, fi, f, hi, hsl⟩ := hSl kf hk
  have hlay := C.2.2.2.2.2.1 _ (hin _ (u_in_lay hk))
  unfold u_lay at hlay
  rw [if_neg (by rw [hfin]; decide)] at hlay
  have hst := (u_facts hfc hkC (u_lays C.2.2.2.2.2.1 hin hk) hi).1
  have h6 := u_store hfc hkC hkind hlay hi (by rw [hty kf hk, hty2]) hn hfit
  refine W.putK C.1 C.2.1 (f := f) ⟨C.2.2.2.2.1, C.2.2.2.2.2.1 _ hlink, ⟨_, _, _, show s.fieldFound? C0 _ _ = some _ by rw [hdecl] at hi; exact hi⟩, hst⟩ (by rw [q2]; exact h6) q1 q3 (by rw [hsl]; exact k2_hasslot (q4 kf hk)) rfl rfl d fun H' e1 e2 e3 => ?_
  rw [hsl] at e1 ⊢
  have hP1 := hP.set (e := (Sum.inr (ci, fs.set kf v) : va_E)) hD he ⟨_, hc0, t_OB.to (V := updV (vp_V fs) kf v) ⟨_, e1, q2, q3, t_set q4 hap hk v⟩ (fun j _ => vp_updV_set hlen v j)⟩ e3
  have hD1 := hD.set (e := (Sum.inr (ci, fs.set kf v) : va_E)) he
  rw [show (Sum.inr (ci, fs.set kf v) : va_E) = cvE cA (.inr (ci, fs.set kf v)) from rfl, cvS_set] at hP1 hD1
  exact kk p e s m args below meth c D cA A H' _ cells slots ls _ C (by rw [hh, (hget_set (hnd_of hD) hk0).2]) hP1 hD1 (hS.put e2 e3 (hD.2 k0 _ he)) (e2.trans hz) hl hc hs2
theorem sp_iald {l : Launch} {X : SCR} {M : MT} {pc : Nat} {lv : List (Nat × Value)} {st : List Value} {h : HP} {sz bc bs : Nat} {Q : PST} {a n : Nat} {f : Nat → Int32} {i : Int32} (d : decode (mB M) pc = .ok (.iaload, 1)) (ha : h a = some (.inl (0, n, .inl f))) (hin : vp_in i n) (kk : SP l X M (pc + 1) lv (.int (f i.toNatClampNeg) :: st) h sz bc bs Q) : SP l X M pc lv (.int i :: .ref a :: st) h sz bc bs Q := by
  intro p e s m args below meth c D cA A H locs cells slots ls hs C hh hP hD hS hz hl hc hs2
  obtain ⟨k0, hk0⟩ := hget_at (hs := hs) (by rw [← hh]; exact ha)
  exact va_iald C.1 C.2.1 C.2.2.2.2.2.2.2.2.2.1.1 hP k0 0 (cvS_at (cA := cA) hk0) (tysL_at (cA := cA) (k := 0) (by decide)) hin d (kk p e s m args below meth c D cA A H locs cells slots ls hs C hh hP hD hS hz hl hc hs2)
theorem sp_zald {l : Launch} {X : SCR} {M : MT} {pc : Nat} {lv : List (Nat × Value)} {st : List Value} {h : HP} {sz bc bs : Nat} {Q : PST} {a n : Nat} {f : Nat → Int32} {i : Int32} (d : decode (mB M) pc = .ok (.baload, 1)) (ha : h a = some (.inl (1, n, .inl f))) (hin : vp_in i n) (kk : SP l X M (pc + 1) lv (.int (f i.toNatClampNeg) :: st) h sz bc bs Q) : SP l X M pc lv (.int i :: .ref a :: st) h sz bc bs Q := by
  intro p e s m args below meth c D cA A H locs cells slots ls hs C hh hP hD hS hz hl hc hs2
  obtain ⟨k0, hk0⟩ := hget_at (hs := hs) (by rw [← hh]; exact ha)
  exact va_zald C.1 C.2.1 C.2.2.2.2.2.2.2.2.2.1.1 hP k0 1 (cvS_at (cA := cA) hk0) (tysL_at (cA := cA) (k := 1) (by decide)) hin d (kk p e s m args below meth c D cA A H locs cells slots ls hs C hh hP hD hS hz hl hc hs2)
theorem sp_lald {l : Launch} {X : SCR} {M : MT} {pc : Nat} {lv : List (Nat × Value)} {st : List Value} {h : HP} {sz bc bs : Nat} {Q : PST} {a n : Nat} {f : Nat → Int64} {i : Int32} (d : decode (mB M) pc = .ok (.laload, 1)) (ha : h a = some (.inl (2, n, .inr (.inl f)))) (hin : vp_in i n) (kk : SP l X M (pc + 1) lv (.long (f i.toNatClampNeg) :: st) h sz bc bs Q) : SP l X M pc lv (.int i :: .ref a :: st) h sz bc bs Q := by
  intro p e s m args below meth c D cA A H locs cells slots ls hs C hh hP hD hS hz hl hc hs2
  obtain ⟨k0, hk0⟩ := hget_at (hs := hs) (by rw [← hh]; exact ha)
  exact va_lald C.1 C.2.1 C.2.2.2.2.2.2.2.2.2.1.1 hP k0 2 (cvS_at (cA := cA) hk0) (tysL_at (cA := cA) (k := 2) (by decide)) hin d (kk p e s m args below meth c D cA A H locs cells slots ls hs C hh hP hD hS hz hl hc hs2)
theorem sp_iast {l : Launch} {X : SCR} {M : MT} {pc : Nat} {lv : List (Nat × Value)} {st : List Value} {h : HP} {sz bc bs : Nat} {Q : PST} {a n : Nat} {f : Nat → Int32} {i : Int32} {x : Int32} (d : decode (mB M) pc = .ok (.iastore, 1)) (ha : h a = some (.inl (0, n, .inl f))) (hin : vp_in i n) (kk : ∀ sz', SP l X M (pc + 1) lv st (hup h a (.inl (0, n, .inl (upd f i.toNatClampNeg x)))) sz' bc bs Q) : SP l X M pc lv (.int x :: .int i :: .ref a :: st) h sz bc bs Q := by
  intro p e s m args below meth c D cA A H locs cells slots ls hs C hh hP hD hS hz hl hc hs2
  obtain ⟨k0, hk0⟩ := hget_at (hs := hs) (by rw [← hh]; exact ha)
  refine va_iast C.1 C.2.1 C.2.2.2.2.2.2.2.2.2.1.1 hP hD hS k0 0 (cvS_at (cA := cA) hk0) (tysL_at (cA := cA) (k := 0) (by decide)) hin d (fun H1 locs1 hP1 hD1 hS1 => ?_)
  rw [show (Sum.inl (cA 0, n, .inl (upd f i.toNatClampNeg x)) : va_E) = cvE cA (.inl (0, n, .inl (upd f i.toNatClampNeg x))) from rfl, cvS_set] at hP1 hD1
  exact (kk H1.size p e s m args below meth c D cA A H1 locs1 cells slots ls _ C (by rw [hh, (hget_set (hnd_of hD) hk0).2]) hP1 hD1 hS1 rfl hl hc hs2)
theorem sp_zast {l : Launch} {X : SCR} {M : MT} {pc : Nat} {lv : List (Nat × Value)} {st : List Value} {h : HP} {sz bc bs : Nat} {Q : PST} {a n : Nat} {f : Nat → Int32} {i : Int32} {x : Int32} (d : decode (mB M) pc = .ok (.bastore, 1)) (ha : h a = some (.inl (1, n, .inl f))) (hin : vp_in i n) (kk : ∀ sz', SP l X M (pc + 1) lv st (hup h a (.inl (1, n, .inl (upd f i.toNatClampNeg (vp_nar .boolean x))))) sz' bc bs Q) : SP l X M pc lv (.int x :: .int i :: .ref a :: st) h sz bc bs Q := by
  intro p e s m args below meth c D cA A H locs cells slots ls hs C hh hP hD hS hz hl hc hs2
  obtain ⟨k0, hk0⟩ := hget_at (hs := hs) (by rw [← hh]; exact ha)
  refine va_zast C.1 C.2.1 C.2.2.2.2.2.2.2.2.2.1.1 hP hD hS k0 1 (cvS_at (cA := cA) hk0) (tysL_at (cA := cA) (k := 1) (by decide)) hin d (fun H1 locs1 hP1 hD1 hS1 => ?_)
  rw [show (Sum.inl (cA 1, n, .inl (upd f i.toNatClampNeg (vp_nar .boolean x))) : va_E) = cvE cA (.inl (1, n, .inl (upd f i.toNatClampNeg (vp_nar .boolean x)))) from rfl, cvS_set] at hP1 hD1
  exact (kk H1.size p e s m args below meth c D cA A H1 locs1 cells slots ls _ C (by rw [hh, (hget_set (hnd_of hD) hk0).2]) hP1 hD1 hS1 rfl hl hc hs2)
theorem sp_last {l : Launch} {X : SCR} {M : MT} {pc : Nat} {lv : List (Nat × Value)} {st : List Value} {h : HP} {sz bc bs : Nat} {Q : PST} {a n : Nat} {f : Nat → Int64} {i : Int32} {x : Int64} (d : decode (mB M) pc = .ok (.lastore, 1)) (ha : h a = some (.inl (2, n, .inr (.inl f)))) (hin : vp_in i n) (kk : ∀ sz', SP l X M (pc + 1) lv st (hup h a (.inl (2, n, .inr (.inl (vp_updL f i.toNatClampNeg x))))) sz' bc bs Q) : SP l X M pc lv (.long x :: .int i :: .ref a :: st) h sz bc bs Q := by
  intro p e s m args below meth c D cA A H locs cells slots ls hs C hh hP hD hS hz hl hc hs2
  obtain ⟨k0, hk0⟩ := hget_at (hs := hs) (by rw [← hh]; exact ha)
  refine va_last C.1 C.2.1 C.2.2.2.2.2.2.2.2.2.1.1 hP hD hS k0 2 (cvS_at (cA := cA) hk0) (tysL_at (cA := cA) (k := 2) (by decide)) hin d (fun H1 locs1 hP1 hD1 hS1 => ?_)
  rw [show (Sum.inl (cA 2, n, .inr (.inl (vp_updL f i.toNatClampNeg x))) : va_E) = cvE cA (.inl (2, n, .inr (.inl (vp_updL f i.toNatClampNeg x)))) from rfl, cvS_set] at hP1 hD1
  exact (kk H1.size p e s m args below meth c D cA A H1 locs1 cells slots ls _ C (by rw [hh, (hget_set (hnd_of hD) hk0).2]) hP1 hD1 hS1 rfl hl hc hs2)
theorem sp_aald3 {l : Launch} {X : SCR} {M : MT} {pc : Nat} {lv : List (Nat × Value)} {st : List Value} {h : HP} {sz bc bs : Nat} {Q : PST} {a n y : Nat} {f : Nat → Option Nat} {i : Int32} (d : decode (mB M) pc = .ok (.aaload, 1)) (ha : h a = some (.inl (3, n, .inr (.inr (.inr (.inr f)))))) (hin : vp_in i n) (hy : f i.toNatClampNeg = some y) (kk : SP l X M (pc + 1) lv (.ref y :: st) h sz bc bs Q) : SP l X M pc lv (.int i :: .ref a :: st) h sz bc bs Q := by
  intro p e s m args below meth c D cA A H locs cells slots ls hs C hh hP hD hS hz hl hc hs2
  obtain ⟨k0, hk0⟩ := hget_at (hs := hs) (by rw [← hh]; exact ha)
  refine va_aldq (C := RX2) C.1 C.2.1 C.2.2.2.2.2.2.2.2.2.1.1 hP k0 3 (cvS_at (cA := cA) hk0) (tysL_at (cA := cA) (k := 3) (by decide)) hin d ?_
  rw [hy]
  exact kk p e s m args below meth c D cA A H locs cells slots ls hs C hh hP hD hS hz hl hc hs2
theorem sp_aast3 {l : Launch} {X : SCR} {M : MT} {pc : Nat} {lv : List (Nat × Value)} {st : List Value} {h : HP} {sz bc bs : Nat} {Q : PST} {a n y : Nat} {f : Nat → Option Nat} {vs : List Value} {i : Int32} (d : decode (mB M) pc = .ok (.aastore, 1)) (ha : h a = some (.inl (3, n, .inr (.inr (.inr (.inr f)))))) (hin : vp_in i n) (hy : h y = some (.inr (2, vs))) (kk : SP l X M (pc + 1) lv st (hup h a (.inl (3, n, .inr (.inr (.inr (.inr (va_up f i.toNatClampNeg (some y)))))))) sz bc bs Q) : SP l X M pc lv (.ref y :: .int i :: .ref a :: st) h sz bc bs Q := by
  intro p e s m args below meth c D cA A H locs cells slots ls hs C hh hP hD hS hz hl hc hs2
  obtain ⟨k0, hk0⟩ := hget_at (hs := hs) (by rw [← hh]; exact ha)
  obtain ⟨k1, hk1⟩ := hget_at (hs := hs) (by rw [← hh]; exact hy)
  have hlt : i.toNatClampNeg < n := Nat.not_le.mp fun q => hin (Or.inr q)
  have h0 : ¬ i < 0 := fun q => hin (Or.inl q)
  have ha2 := cvS_at (cA := cA) hk0
  obtain ⟨r', hr', cellV, g1, g2, g3, -⟩ := hP k1 _ (cvS_at (cA := cA) hk1)
  have hcls := (C.2.2.2.2.2.2.2.2.2.1.1.1 2 _ (show vwCl[2]? = some (RX2, TX2, _) from rfl)).2
  obtain ⟨kA, comp, y1, y2, y3, -⟩ := (C.2.2.2.2.2.2.2.2.2.1.1.2 3 _ (tysL_at (cA := cA) (k := 3) (by decide))).2
  have hcomp : comp = D.1 2 := Option.some.inj (y3.symm.trans hcls.1)
  subst hcomp
  obtain ⟨kC, hkC, -⟩ := hcls.2
  refine W.aast C.1 C.2.1 (hP k0 _ ha2) (fun q h => by cases h) (fun h => by cases h) y1 y2 rfl hkC ⟨h0, by show _ < (arrV _ _ _).slots.size; rw [arrV_size]; exact hlt⟩ g1 (fun q h => by rw [g3] at h; cases h) (by rw [g2]; exact hkC) (by rw [g2]; exact va_assign hcls) rfl rfl d fun H1 e1 e2 e3 => ?_
  have hP1 := hP.set (e := (Sum.inl (cA 3, n, .inr (.inr (.inr (.inr (va_up f i.toNatClampNeg (some y)))))) : va_E)) hD ha2 (by
    show H1[a]? = some (vp_cell _ _)
    rw [e1]
    show some ((vp_cell _ _).setSlot _ _) = _
    rw [vp_cell_q, vp_cell_q, arrV_store]
    congr 2
    funext q
    by_cases hq : q = i.toNatClampNeg
    · subst hq; simp [updV, va_up, va_rf]
    · simp [updV, va_up, hq]) e3
  have hD1 := hD.set (e := (Sum.inl (cA 3, n, .inr (.inr (.inr (.inr (va_up f i.toNatClampNeg (some y)))))) : va_E)) ha2
  rw [show (Sum.inl (cA 3, n, .inr (.inr (.inr (.inr (va_up f i.toNatClampNeg (some y)))))) : va_E) = cvE cA (.inl (3, n, .inr (.inr (.inr (.inr (va_up f i.toNatClampNeg (some y))))))) from rfl, cvS_set] at hP1 hD1
  exact kk p e s m args below meth c D cA A H1 _ cells slots ls _ C (by rw [hh, (hget_set (hnd_of hD) hk0).2]) hP1 hD1 (hS.put e2 e3 (hD.2 k0 _ ha2)) (e2.trans hz) hl hc hs2
theorem sp_aald4 {l : Launch} {X : SCR} {M : MT} {pc : Nat} {lv : List (Nat × Value)} {st : List Value} {h : HP} {sz bc bs : Nat} {Q : PST} {a n y : Nat} {f : Nat → Option Nat} {i : Int32} (d : decode (mB M) pc = .ok (.aaload, 1)) (ha : h a = some (.inl (4, n, .inr (.inr (.inr (.inr f)))))) (hin : vp_in i n) (hy : f i.toNatClampNeg = some y) (kk : SP l X M (pc + 1) lv (.ref y :: st) h sz bc bs Q) : SP l X M pc lv (.int i :: .ref a :: st) h sz bc bs Q := by
  intro p e s m args below meth c D cA A H locs cells slots ls hs C hh hP hD hS hz hl hc hs2
  obtain ⟨k0, hk0⟩ := hget_at (hs := hs) (by rw [← hh]; exact ha)
  refine va_aldq (C := RX3) C.1 C.2.1 C.2.2.2.2.2.2.2.2.2.1.1 hP k0 4 (cvS_at (cA := cA) hk0) (tysL_at (cA := cA) (k := 4) (by decide)) hin d ?_
  rw [hy]
  exact kk p e s m args below meth c D cA A H locs cells slots ls hs C hh hP hD hS hz hl hc hs2
theorem sp_aast4 {l : Launch} {X : SCR} {M : MT} {pc : Nat} {lv : List (Nat × Value)} {st : List Value} {h : HP} {sz bc bs : Nat} {Q : PST} {a n y : Nat} {f : Nat → Option Nat} {vs : List Value} {i : Int32} (d : decode (mB M) pc = .ok (.aastore, 1)) (ha : h a = some (.inl (4, n, .inr (.inr (.inr (.inr f)))))) (hin : vp_in i n) (hy : h y = some (.inr (3, vs))) (kk : SP l X M (pc + 1) lv st (hup h a (.inl (4, n, .inr (.inr (.inr (.inr (va_up f i.toNatClampNeg (some y)))))))) sz bc bs Q) : SP l X M pc lv (.ref y :: .int i :: .ref a :: st) h sz bc bs Q := by
  intro p e s m args below meth c D cA A H locs cells slots ls hs C hh hP hD hS hz hl hc hs2
  obtain ⟨k0, hk0⟩ := hget_at (hs := hs) (by rw [← hh]; exact ha)
  obtain ⟨k1, hk1⟩ := hget_at (hs := hs) (by rw [← hh]; exact hy)
  have hlt : i.toNatClampNeg < n := Nat.not_le.mp fun q => hin (Or.inr q)
  have h0 : ¬ i < 0 := fun q => hin (Or.inl q)
  have ha2 := cvS_at (cA := cA) hk0
  obtain ⟨r', hr', cellV, g1, g2, g3, -⟩ := hP k1 _ (cvS_at (cA := cA) hk1)
  have hcls := (C.2.2.2.2.2.2.2.2.2.1.1.1 3 _ (show vwCl[3]? = some (RX3, TX3, _) from rfl)).2
  obtain ⟨kA, comp, y1, y2, y3, -⟩ := (C.2.2.2.2.2.2.2.2.2.1.1.2 4 _ (tysL_at (cA := cA) (k := 4) (by decide))).2
  have hcomp : comp = D.1 3 := Option.some.inj (y3.symm.trans hcls.1)
  subst hcomp
  obtain ⟨kC, hkC, -⟩ := hcls.2
  refine W.aast C.1 C.2.1 (hP k0 _ ha2) (fun q h => by cases h) (fun h => by cases h) y1 y2 rfl hkC ⟨h0, by show _ < (arrV _ _ _).slots.size; rw [arrV_size]; exact hlt⟩ g1 (fun q h => by rw [g3] at h; cases h) (by rw [g2]; exact hkC) (by rw [g2]; exact va_assign hcls) rfl rfl d fun H1 e1 e2 e3 => ?_
  have hP1 := hP.set (e := (Sum.inl (cA 4, n, .inr (.inr (.inr (.inr (va_up f i.toNatClampNeg (some y)))))) : va_E)) hD ha2 (by
    show H1[a]? = some (vp_cell _ _)
    rw [e1]
    show some ((vp_cell _ _).setSlot _ _) = _
    rw [vp_cell_q, vp_cell_q, arrV_store]
    congr 2
    funext q
    by_cases hq : q = i.toNatClampNeg
    · subst hq; simp [updV, va_up, va_rf]
    · simp [updV, va_up, hq]) e3
  have hD1 := hD.set (e := (Sum.inl (cA 4, n, .inr (.inr (.inr (.inr (va_up f i.toNatClampNeg (some y)))))) : va_E)) ha2
  rw [show (Sum.inl (cA 4, n, .inr (.inr (.inr (.inr (va_up f i.toNatClampNeg (some y)))))) : va_E) = cvE cA (.inl (4, n, .inr (.inr (.inr (.inr (va_up f i.toNatClampNeg (some y))))))) from rfl, cvS_set] at hP1 hD1
  exact kk p e s m args below meth c D cA A H1 _ cells slots ls _ C (by rw [hh, (hget_set (hnd_of hD) hk0).2]) hP1 hD1 (hS.put e2 e3 (hD.2 k0 _ ha2)) (e2.trans hz) hl hc hs2
theorem sp_alen {l : Launch} {X : SCR} {M : MT} {pc : Nat} {lv : List (Nat × Value)} {st : List Value} {h : HP} {sz bc bs : Nat} {Q : PST} {a kd : Nat} {x : vp_A} (d : decode (mB M) pc = .ok (.arraylength, 1)) (hkd : kd < 5) (ha : h a = some (.inl (kd, x))) (kk : SP l X M (pc + 1) lv (.int (Int32.ofNat x.1) :: st) h sz bc bs Q) : SP l X M pc lv (.ref a :: st) h sz bc bs Q := by
  intro p e s m args below meth c D cA A H locs cells slots ls hs C hh hP hD hS hz hl hc hs2
  obtain ⟨k0, hk0⟩ := hget_at (hs := hs) (by rw [← hh]; exact ha)
  exact va_alen C.1 C.2.1 C.2.2.2.2.2.2.2.2.2.1.1 hP k0 kd (cvS_at (cA := cA) hk0) (tysL_at (cA := cA) hkd) rfl d (kk p e s m args below meth c D cA A H locs cells slots ls hs C hh hP hD hS hz hl hc hs2)
theorem sp_sld {l : Launch} {X : SCR} {M : MT} {pc : Nat} {lv : List (Nat × Value)} {st : List Value} {h : HP} {sz bc bs : Nat} {Q : PST} {b L : Nat} {xs : Nat → Int32} {i : Int32} (hX : X.1 = some (b, L, xs)) (d : decode (mB M) pc = .ok (.iaload, 1)) (hin : vp_in i L) (kk : SP l X M (pc + 1) lv (.int (xs i.toNatClampNeg) :: st) h sz bc bs Q) : SP l X M pc lv (.int i :: .ref b :: st) h sz bc bs Q := by
  intro p e s m args below meth c D cA A H locs cells slots ls hs C hh hP hD hS hz hl hc hs2
  obtain ⟨x1, x2, x3⟩ := C.2.2.2.2.2.2.2.2.2.2.2.2 b L xs hX
  exact va_sld C.1 C.2.1 x1 x2 x3 hS hin d (kk p e s m args below meth c D cA A H locs cells slots ls hs C hh hP hD hS hz hl hc hs2)
theorem sp_slen {l : Launch} {X : SCR} {M : MT} {pc : Nat} {lv : List (Nat × Value)} {st : List Value} {h : HP} {sz bc bs : Nat} {Q : PST} {b L : Nat} {xs : Nat → Int32} (hX : X.1 = some (b, L, xs)) (d : decode (mB M) pc = .ok (.arraylength, 1)) (kk : SP l X M (pc + 1) lv (.int (Int32.ofNat L) :: st) h sz bc bs Q) : SP l X M pc lv (.ref b :: st) h sz bc bs Q := by
  intro p e s m args below meth c D cA A H locs cells slots ls hs C hh hP hD hS hz hl hc hs2
  obtain ⟨x1, x2, x3⟩ := C.2.2.2.2.2.2.2.2.2.2.2.2 b L xs hX
  exact va_slen C.1 C.2.1 x1 x2 x3 hS d (kk p e s m args below meth c D cA A H locs cells slots ls hs C hh hP hD hS hz hl hc hs2)
end
section
def NEWC (ci : Nat) (own : String) (idx n : Nat) (fs : List Value) : Prop := ∃ (C : String) (T : u_T) (ty0 : Nat → FieldType), vwCl[ci]? = some (C, T, n) ∧ (∀ w ∈ u_ws C T n, w ∈ BIG) ∧ (∀ k, k < n → parseFieldDescriptor (T k).2.2.1 = some (ty0 k)) ∧ Cond.classLink own idx C ∈ BIG ∧ Cond.instantiable C n ∈ BIG ∧ Cond.initialized C ∈ BIG ∧ ∀ j, j < n → defaultValue (ty0 j) = vp_V fs j
theorem hget_lt {D : va_G} {cl : List vw_C} {cA : Nat → ClassId} {hs : HS} {H : Heap} (hP : va_P D cl (cvS cA hs) H) {a : Nat} {e : CE} (h : hget hs a = some e) : a < H.size := by
  obtain ⟨k, hk⟩ := hget_at h
  exact (hP k _ (cvS_at hk)).lt
theorem sp_new {l : Launch} {X : SCR} {M : MT} {pc : Nat} {lv : List (Nat × Value)} {st : List Value} {h : HP} {sz bc bs : Nat} {Q : PST} {bc2 bs2 ci idx n : Nat} {fs : List Value} (hN : NEWC ci (mN M).cls idx n fs) (d : decode (mB M) pc = .ok (.new idx, 3)) (hbc : bc = bc2 + 1) (hbs : bs = bs2 + n) (kk : (∀ a e, h a = some e → a < sz) → SP l X M (pc + 3) lv (.ref sz :: st) (hup h sz (.inr (ci, fs))) (sz + 1) bc2 bs2 Q) : SP l X M pc lv st h sz bc bs Q := by
  intro p e s m args below meth c D cA A H locs cells slots ls hs C hh hP hD hS hz hl hc hs2
  subst hz
  obtain ⟨C0, T, ty0, hc0, hin, hty, w1, w2, w3, hfs⟩ := hN
  have hKn := C.2.2.2.2.2.2.2.2.2.1.1.1 ci _ hc0
  refine W.newcK C.1 C.2.1 C.2.2.2.2.1 (C.2.2.2.2.2.1 _ w1) (C.2.2.2.2.2.1 _ w2) (C.2.2.2.2.2.1 _ w3) rfl d (by omega) (by omega) hKn.2.1 rfl fun H1 kC hkC e1 z1 o1 => ?_
  have hk : ∀ (k : Nat) (x : Nat × va_E), (cvS cA hs)[k]? = some x → H1[x.1]? = H[x.1]? := fun k x hx => o1 x.1 ((hP k x hx).lt)
  have hPn := (hP.kept hk).app (w2 := [(H.size, cvE cA (.inr (ci, fs)))]) (fun k x hx => by
    have hz : k < 1 := (List.getElem?_eq_some_iff.mp hx).1
    rw [show k = 0 by omega] at hx
    cases hx
    exact ⟨_, hc0, (u_born ty0 C.2.2.2.2.2.1 hin hKn hkC e1 hty).to hfs⟩)
  have hDn : va_D A (cvS cA hs ++ [(H.size, cvE cA (.inr (ci, fs)))]) := hD.push hP rfl (C.2.2.2.2.2.2.2.2.2.2.2.1 _ hS.1)
  have hSn : va_S A s.heap H1 locs := ⟨Nat.le_trans hS.1 (by omega), fun x h1 h2 => (o1 x (Nat.lt_of_lt_of_le h1 hS.1)).trans (hS.2.1 x h1 h2), hS.2.2⟩
  rw [cvS_push] at hPn hDn
  exact kk (fun a e ha => hget_lt hP (by rw [← hh]; exact ha)) p e s m args below meth c D cA A H1 locs (cells + 1) (slots + n) ls _ C (by rw [hh]; exact (hget_push (hnd_of hDn)).symm) hPn hDn hSn z1 hl (by omega) (by omega)
theorem sp_newaI {l : Launch} {X : SCR} {M : MT} {pc : Nat} {lv : List (Nat × Value)} {st : List Value} {h : HP} {sz bc bs : Nat} {Q : PST} {bc2 bs2 : Nat} {n : Int32} {N : Nat} (hw : Cond.arrayClass .int ∈ BIG) (d : decode (mB M) pc = .ok (.newarray .int, 2)) (hn : ¬ n < 0) (hN : n.toNatClampNeg = N) (hbytes : N * componentBytes .int ≤ 536870912) (hbc : bc = bc2 + 1) (hbs : bs = bs2 + N) (kk : (∀ a e, h a = some e → a < sz) → SP l X M (pc + 2) lv (.ref sz :: st) (hup h sz (.inl (0, N, .inl (fun _ => 0)))) (sz + 1) bc2 bs2 Q) : SP l X M pc lv (.int n :: st) h sz bc bs Q := by
  intro p e s m args below meth c D cA A H locs cells slots ls hs C hh hP hD hS hz hl hc hs2
  subst hz
  refine va_newaK (atype := .int) C.1 C.2.1 (C.2.2.2.2.2.1 _ hw) rfl d rfl hn hN hbytes (by omega) (by omega) rfl fun H1 cA1 e1 z1 o1 hAr hNm => ?_
  have hR : s.vm.findClass ("[" ++ (FieldType.int).toString) = some (cA 0) := (C.2.2.2.2.2.2.2.2.2.1.1.2 0 _ (tysL_at (cA := cA) (k := 0) (by decide))).2
  have hcc : cA1 = cA 0 := Option.some.inj (hNm.symm.trans hR)
  subst hcc
  have hk : ∀ (k : Nat) (x : Nat × va_E), (cvS cA hs)[k]? = some x → H1[x.1]? = H[x.1]? := fun k x hx => o1 x.1 ((hP k x hx).lt)
  have hPn := (hP.kept hk).app (w2 := [(H.size, cvE cA (.inl (0, N, .inl (fun _ => 0))))]) (fun k x hx => by
    have hz : k < 1 := (List.getElem?_eq_some_iff.mp hx).1
    rw [show k = 0 by omega] at hx
    cases hx
    show H1[H.size]? = some (vp_cell _ _)
    rw [vp_cell_i]
    exact e1)
  have hDn : va_D A (cvS cA hs ++ [(H.size, cvE cA (.inl (0, N, .inl (fun _ => 0))))]) := hD.push hP rfl (C.2.2.2.2.2.2.2.2.2.2.2.1 _ hS.1)
  have hSn : va_S A s.heap H1 locs := ⟨Nat.le_trans hS.1 (by omega), fun x h1 h2 => (o1 x (Nat.lt_of_lt_of_le h1 hS.1)).trans (hS.2.1 x h1 h2), hS.2.2⟩
  rw [cvS_push] at hPn hDn
  exact kk (fun a e ha => hget_lt hP (by rw [← hh]; exact ha)) p e s m args below meth c D cA A H1 locs (cells + 1) (slots + N) ls _ C (by rw [hh]; exact (hget_push (hnd_of hDn)).symm) hPn hDn hSn z1 hl (by omega) (by omega)
theorem sp_newaZ {l : Launch} {X : SCR} {M : MT} {pc : Nat} {lv : List (Nat × Value)} {st : List Value} {h : HP} {sz bc bs : Nat} {Q : PST} {bc2 bs2 : Nat} {n : Int32} {N : Nat} (hw : Cond.arrayClass .boolean ∈ BIG) (d : decode (mB M) pc = .ok (.newarray .boolean, 2)) (hn : ¬ n < 0) (hN : n.toNatClampNeg = N) (hbytes : N * componentBytes .boolean ≤ 536870912) (hbc : bc = bc2 + 1) (hbs : bs = bs2 + N) (kk : (∀ a e, h a = some e → a < sz) → SP l X M (pc + 2) lv (.ref sz :: st) (hup h sz (.inl (1, N, .inl (fun _ => 0)))) (sz + 1) bc2 bs2 Q) : SP l X M pc lv (.int n :: st) h sz bc bs Q := by
  intro p e s m args below meth c D cA A H locs cells slots ls hs C hh hP hD hS hz hl hc hs2
  subst hz
  refine va_newaK (atype := .boolean) C.1 C.2.1 (C.2.2.2.2.2.1 _ hw) rfl d rfl hn hN hbytes (by omega) (by omega) rfl fun H1 cA1 e1 z1 o1 hAr hNm => ?_
  have hR : s.vm.findClass ("[" ++ (FieldType.boolean).toString) = some (cA 1) := (C.2.2.2.2.2.2.2.2.2.1.1.2 1 _ (tysL_at (cA := cA) (k := 1) (by decide))).2
  have hcc : cA1 = cA 1 := Option.some.inj (hNm.symm.trans hR)
  subst hcc
  have hk : ∀ (k : Nat) (x : Nat × va_E), (cvS cA hs)[k]? = some x → H1[x.1]? = H[x.1]? := fun k x hx => o1 x.1 ((hP k x hx).lt)
  have hPn := (hP.kept hk).app (w2 := [(H.size, cvE cA (.inl (1, N, .inl (fun _ => 0))))]) (fun k x hx => by
    have hz : k < 1 := (List.getElem?_eq_some_iff.mp hx).1
    rw [show k = 0 by omega] at hx
    cases hx
    show H1[H.size]? = some (vp_cell _ _)
    rw [vp_cell_i]
    exact e1)
  have hDn : va_D A (cvS cA hs ++ [(H.size, cvE cA (.inl (1, N, .inl (fun _ => 0))))]) := hD.push hP rfl (C.2.2.2.2.2.2.2.2.2.2.2.1 _ hS.1)
  have hSn : va_S A s.heap H1 locs := ⟨Nat.le_trans hS.1 (by omega), fun x h1 h2 => (o1 x (Nat.lt_of_lt_of_le h1 hS.1)).trans (hS.2.1 x h1 h2), hS.2.2⟩
  rw [cvS_push] at hPn hDn
  exact kk (fun a e ha => hget_lt hP (by rw [← hh]; exact ha)) p e s m args below meth c D cA A H1 locs (cells + 1) (slots + N) ls _ C (by rw [hh]; exact (hget_push (hnd_of hDn)).symm) hPn hDn hSn z1 hl (by omega) (by omega)
theorem sp_newaJ {l : Launch} {X : SCR} {M : MT} {pc : Nat} {lv : List (Nat × Value)} {st : List Value} {h : HP} {sz bc bs : Nat} {Q : PST} {bc2 bs2 : Nat} {n : Int32} {N : Nat} (hw : Cond.arrayClass .long ∈ BIG) (d : decode (mB M) pc = .ok (.newarray .long, 2)) (hn : ¬ n < 0) (hN : n.toNatClampNeg = N) (hbytes : N * componentBytes .long ≤ 536870912) (hbc : bc = bc2 + 1) (hbs : bs = bs2 + N) (kk : (∀ a e, h a = some e → a < sz) → SP l X M (pc + 2) lv (.ref sz :: st) (hup h sz (.inl (2, N, .inr (.inl (fun _ => 0))))) (sz + 1) bc2 bs2 Q) : SP l X M pc lv (.int n :: st) h sz bc bs Q := by
  intro p e s m args below meth c D cA A H locs cells slots ls hs C hh hP hD hS hz hl hc hs2
  subst hz
  refine va_newaK (atype := .long) C.1 C.2.1 (C.2.2.2.2.2.1 _ hw) rfl d rfl hn hN hbytes (by omega) (by omega) rfl fun H1 cA1 e1 z1 o1 hAr hNm => ?_
  have hR : s.vm.findClass ("[" ++ (FieldType.long).toString) = some (cA 2) := (C.2.2.2.2.2.2.2.2.2.1.1.2 2 _ (tysL_at (cA := cA) (k := 2) (by decide))).2
  have hcc : cA1 = cA 2 := Option.some.inj (hNm.symm.trans hR)
  subst hcc
  have hk : ∀ (k : Nat) (x : Nat × va_E), (cvS cA hs)[k]? = some x → H1[x.1]? = H[x.1]? := fun k x hx => o1 x.1 ((hP k x hx).lt)
  have hPn := (hP.kept hk).app (w2 := [(H.size, cvE cA (.inl (2, N, .inr (.inl (fun _ => 0)))))]) (fun k x hx => by
    have hz : k < 1 := (List.getElem?_eq_some_iff.mp hx).1
    rw [show k = 0 by omega] at hx
    cases hx
    show H1[H.size]? = some (vp_cell _ _)
    rw [vp_cell_l]
    exact e1)
  have hDn : va_D A (cvS cA hs ++ [(H.size, cvE cA (.inl (2, N, .inr (.inl (fun _ => 0)))))]) := hD.push hP rfl (C.2.2.2.2.2.2.2.2.2.2.2.1 _ hS.1)
  have hSn : va_S A s.heap H1 locs := ⟨Nat.le_trans hS.1 (by omega), fun x h1 h2 => (o1 x (Nat.lt_of_lt_of_le h1 hS.1)).trans (hS.2.1 x h1 h2), hS.2.2⟩
  rw [cvS_push] at hPn hDn
  exact kk (fun a e ha => hget_lt hP (by rw [← hh]; exact ha)) p e s m args below meth c D cA A H1 locs (cells + 1) (slots + N) ls _ C (by rw [hh]; exact (hget_push (hnd_of hDn)).symm) hPn hDn hSn z1 hl (by omega) (by omega)
theorem sp_anew3 {l : Launch} {X : SCR} {M : MT} {pc : Nat} {lv : List (Nat × Value)} {st : List Value} {h : HP} {sz bc bs : Nat} {Q : PST} {bc2 bs2 : Nat} {n : Int32} {N idx : Nat} (hw : Cond.classLink (mN M).cls idx RX2 ∈ BIG) (hov : Cond.arrayOver (.object RX2) ∈ lw_tbl) (d : decode (mB M) pc = .ok (.anewarray idx, 3)) (hn : ¬ n < 0) (hN : n.toNatClampNeg = N) (hbytes : N * 4 ≤ 536870912) (hbc : bc = bc2 + 1) (hbs : bs = bs2 + N) (kk : (∀ a e, h a = some e → a < sz) → SP l X M (pc + 3) lv (.ref sz :: st) (hup h sz (.inl (3, N, .inr (.inr (.inr (.inr (fun _ => none))))))) (sz + 1) bc2 bs2 Q) : SP l X M pc lv (.int n :: st) h sz bc bs Q := by
  intro p e s m args below meth c D cA A H locs cells slots ls hs C hh hP hD hS hz hl hc hs2
  subst hz
  subst hN
  refine W.anew C.1 C.2.1 C.2.2.2.2.1 (C.2.2.2.2.2.1 _ hw) (va_AO.use (C.2.2.2.2.2.2.2.2.2.1.2.2.2.1 _ hov)) rfl d rfl hn hbytes (by omega) (by omega) fun cA1 kA comp f1 f2 f3 f4 => ?_
  obtain ⟨-, -, -, -, -, hR⟩ := (show va_RA s (cA 3) (.object RX2) from (C.2.2.2.2.2.2.2.2.2.1.1.2 3 _ (tysL_at (cA := cA) (k := 3) (by decide))).2)
  have hcc : cA1 = cA 3 := Option.some.inj (f1.symm.trans hR)
  subst hcc
  generalize hH1 : H.push ({ cls := cA 3, slots := Array.replicate n.toNatClampNeg .null, vm := .none } : Cell) = H1
  have z1 : H1.size = H.size + 1 := by rw [← hH1, Array.size_push]
  have e1 : H1[H.size]? = some (arrV (cA 3) n.toNatClampNeg (fun _ => .null)) := by rw [← hH1, Array.getElem?_push_size, ← arrV_new]
  have o1 : ∀ q : Nat, q < H.size → H1[q]? = H[q]? := fun q hq => by rw [← hH1, Array.getElem?_push, if_neg (Nat.ne_of_lt hq)]
  have hk : ∀ (k : Nat) (x : Nat × va_E), (cvS cA hs)[k]? = some x → H1[x.1]? = H[x.1]? := fun k x hx => o1 x.1 ((hP k x hx).lt)
  have hPn := (hP.kept hk).app (w2 := [(H.size, cvE cA (.inl (3, n.toNatClampNeg, .inr (.inr (.inr (.inr (fun _ => none)))))))]) (fun k x hx => by
    have hz : k < 1 := (List.getElem?_eq_some_iff.mp hx).1
    rw [show k = 0 by omega] at hx
    cases hx
    show H1[H.size]? = some (vp_cell _ _)
    rw [vp_cell_q]
    exact e1)
  have hDn : va_D A (cvS cA hs ++ [(H.size, cvE cA (.inl (3, n.toNatClampNeg, .inr (.inr (.inr (.inr (fun _ => none)))))))]) := hD.push hP rfl (C.2.2.2.2.2.2.2.2.2.2.2.1 _ hS.1)
  have hSn : va_S A s.heap H1 locs := ⟨Nat.le_trans hS.1 (by omega), fun x h1 h2 => (o1 x (Nat.lt_of_lt_of_le h1 hS.1)).trans (hS.2.1 x h1 h2), hS.2.2⟩
  rw [cvS_push] at hPn hDn
  exact kk (fun a e ha => hget_lt hP (by rw [← hh]; exact ha)) p e s m args below meth c D cA A H1 locs (cells + 1) (slots + n.toNatClampNeg) ls _ C (by rw [hh]; exact (hget_push (hnd_of hDn)).symm) hPn hDn hSn z1 hl (by omega) (by omega)
theorem sp_anew4 {l : Launch} {X : SCR} {M : MT} {pc : Nat} {lv : List (Nat × Value)} {st : List Value} {h : HP} {sz bc bs : Nat} {Q : PST} {bc2 bs2 : Nat} {n : Int32} {N idx : Nat} (hw : Cond.classLink (mN M).cls idx RX3 ∈ BIG) (hov : Cond.arrayOver (.object RX3) ∈ lw_tbl) (d : decode (mB M) pc = .ok (.anewarray idx, 3)) (hn : ¬ n < 0) (hN : n.toNatClampNeg = N) (hbytes : N * 4 ≤ 536870912) (hbc : bc = bc2 + 1) (hbs : bs = bs2 + N) (kk : (∀ a e, h a = some e → a < sz) → SP l X M (pc + 3) lv (.ref sz :: st) (hup h sz (.inl (4, N, .inr (.inr (.inr (.inr (fun _ => none))))))) (sz + 1) bc2 bs2 Q) : SP l X M pc lv (.int n :: st) h sz bc bs Q := by
  intro p e s m args below meth c D cA A H locs cells slots ls hs C hh hP hD hS hz hl hc hs2
  subst hz
  subst hN
  refine W.anew C.1 C.2.1 C.2.2.2.2.1 (C.2.2.2.2.2.1 _ hw) (va_AO.use (C.2.2.2.2.2.2.2.2.2.1.2.2.2.1 _ hov)) rfl d rfl hn hbytes (by omega) (by omega) fun cA1 kA comp f1 f2 f3 f4 => ?_
  obtain ⟨-, -, -, -, -, hR⟩ := (show va_RA s (cA 4) (.object RX3) from (C.2.2.2.2.2.2.2.2.2.1.1.2 4 _ (tysL_at (cA := cA) (k := 4) (by decide))).2)
  have hcc : cA1 = cA 4 := Option.some.inj (f1.symm.trans hR)
  subst hcc
  generalize hH1 : H.push ({ cls := cA 4, slots := Array.replicate n.toNatClampNeg .null, vm := .none } : Cell) = H1
  have z1 : H1.size = H.size + 1 := by rw [← hH1, Array.size_push]
  have e1 : H1[H.size]? = some (arrV (cA 4) n.toNatClampNeg (fun _ => .null)) := by rw [← hH1, Array.getElem?_push_size, ← arrV_new]
  have o1 : ∀ q : Nat, q < H.size → H1[q]? = H[q]? := fun q hq => by rw [← hH1, Array.getElem?_push, if_neg (Nat.ne_of_lt hq)]
  have hk : ∀ (k : Nat) (x : Nat × va_E), (cvS cA hs)[k]? = some x → H1[x.1]? = H[x.1]? := fun k x hx => o1 x.1 ((hP k x hx).lt)
  have hPn := (hP.kept hk).app (w2 := [(H.size, cvE cA (.inl (4, n.toNatClampNeg, .inr (.inr (.inr (.inr (fun _ => none)))))))]) (fun k x hx => by
    have hz : k < 1 := (List.getElem?_eq_some_iff.mp hx).1
    rw [show k = 0 by omega] at hx
    cases hx
    show H1[H.size]? = some (vp_cell _ _)
    rw [vp_cell_q]
    exact e1)
  have hDn : va_D A (cvS cA hs ++ [(H.size, cvE cA (.inl (4, n.toNatClampNeg, .inr (.inr (.inr (.inr (fun _ => none)))))))]) := hD.push hP rfl (C.2.2.2.2.2.2.2.2.2.2.2.1 _ hS.1)
  have hSn : va_S A s.heap H1 locs := ⟨Nat.le_trans hS.1 (by omega), fun x h1 h2 => (o1 x (Nat.lt_of_lt_of_le h1 hS.1)).trans (hS.2.1 x h1 h2), hS.2.2⟩
  rw [cvS_push] at hPn hDn
  exact kk (fun a e ha => hget_lt hP (by rw [← hh]; exact ha)) p e s m args below meth c D cA A H1 locs (cells + 1) (slots + n.toNatClampNeg) ls _ C (by rw [hh]; exact (hget_push (hnd_of hDn)).symm) hPn hDn hSn z1 hl (by omega) (by omega)
theorem sp_objInit {l : Launch} {X : SCR} {M : MT} {pc : Nat} {lv : List (Nat × Value)} {st : List Value} {h : HP} {sz bc bs : Nat} {Q : PST} {idx a : Nat} (hw : Cond.methodLink (mN M).cls idx objectInit ∈ BIG) (hw2 : Cond.instanceMethod objectInit ∈ BIG) (hw3 : Cond.code objectInit ⟨#[0xb1]⟩ 1 none ∈ BIG) (d : decode (mB M) pc = .ok (.invokespecial idx, 3)) (hfr : 1 ≤ (mRm M).frames) (hlo : (st.map fun v => v.category).sum + 12 ≤ (mRm M).locals) (kk : SP l X M (pc + 3) lv st h sz bc bs Q) : SP l X M pc lv (.ref a :: st) h sz bc bs Q := by
  intro p e s m args below meth c D cA A H locs cells slots ls hs C hh hP hD hS hz hl hc hs2
  refine W.objInit C.1 C.2.1 C.2.2.2.2.1 (C.2.2.2.2.2.1 _ hw) (C.2.2.2.2.2.1 _ hw2) (C.2.2.2.2.2.1 _ hw3) rfl (hl.1.trans C.2.2.1.symm) rfl d hfr (by show 2 * 0 + _ + 12 ≤ _; omega) ?_
  exact kk p e s m args below meth c D cA A H locs cells slots ls hs C hh hP hD hS hz hl hc hs2
theorem sp_mmax {l : Launch} {X : SCR} {M : MT} {pc : Nat} {lv : List (Nat × Value)} {st : List Value} {h : HP} {sz bc bs : Nat} {Q : PST} {idx : Nat} {x y : Int32} (hw : Cond.methodLink (mN M).cls idx Lib.Math.max.name ∈ BIG) (hw2 : Cond.static Lib.Math.max.name ∈ BIG) (hw3 : Cond.initialized "java/lang/Math" ∈ BIG) (hw4 : Cond.code Lib.Math.max.name Lib.Math.max.code 2 (some .int) ∈ BIG) (d : decode (mB M) pc = .ok (.invokestatic idx, 3)) (hfr : 1 ≤ (mRm M).frames) (hlo : (st.map fun v => v.category).sum + 13 ≤ (mRm M).locals) (kk : SP l X M (pc + 3) lv (.int (if x < y then y else x) :: st) h sz bc bs Q) : SP l X M pc lv (.int y :: .int x :: st) h sz bc bs Q := by
  intro p e s m args below meth c D cA A H locs cells slots ls hs C hh hP hD hS hz hl hc hs2
  exact va_mmax C.1 C.2.1 (C.2.2.1.trans hl.1.symm) C.2.2.2.2.1 (C.2.2.2.2.2.1 _ hw) (C.2.2.2.2.2.1 _ hw2) (C.2.2.2.2.2.1 _ hw3) (C.2.2.2.2.2.1 _ hw4) hfr hlo (by omega) (by omega) d (kk p e s m args below meth c D cA A H locs cells slots ls hs C hh hP hD hS hz hl hc hs2)
theorem sp_mmin {l : Launch} {X : SCR} {M : MT} {pc : Nat} {lv : List (Nat × Value)} {st : List Value} {h : HP} {sz bc bs : Nat} {Q : PST} {idx : Nat} {x y : Int32} (hw : Cond.methodLink (mN M).cls idx Lib.Math.min.name ∈ BIG) (hw2 : Cond.static Lib.Math.min.name ∈ BIG) (hw3 : Cond.initialized "java/lang/Math" ∈ BIG) (hw4 : Cond.code Lib.Math.min.name Lib.Math.min.code 2 (some .int) ∈ BIG) (d : decode (mB M) pc = .ok (.invokestatic idx, 3)) (hfr : 1 ≤ (mRm M).frames) (hlo : (st.map fun v => v.category).sum + 13 ≤ (mRm M).locals) (kk : SP l X M (pc + 3) lv (.int (if y < x then y else x) :: st) h sz bc bs Q) : SP l X M pc lv (.int y :: .int x :: st) h sz bc bs Q := by
  intro p e s m args below meth c D cA A H locs cells slots ls hs C hh hP hD hS hz hl hc hs2
  exact va_mmin C.1 C.2.1 (C.2.2.1.trans hl.1.symm) C.2.2.2.2.1 (C.2.2.2.2.2.1 _ hw) (C.2.2.2.2.2.1 _ hw2) (C.2.2.2.2.2.1 _ hw3) (C.2.2.2.2.2.1 _ hw4) hfr hlo (by omega) (by omega) d (kk p e s m args below meth c D cA A H locs cells slots ls hs C hh hP hD hS hz hl hc hs2)
theorem sp_copyi {l : Launch} {X : SCR} {M : MT} {pc : Nat} {lv : List (Nat × Value)} {st : List Value} {h : HP} {sz bc bs : Nat} {Q : PST} {idx a0 a n0 n1 : Nat} {f g : Nat → Int32} {sp dp n : Int32} (hw : Cond.methodLink (mN M).cls idx arraycopyName ∈ BIG) (hw2 : Cond.native arraycopyName ∈ BIG) (hw3 : Cond.static arraycopyName ∈ BIG) (hw4 : Cond.initialized "java/lang/System" ∈ BIG) (d : decode (mB M) pc = .ok (.invokestatic idx, 3)) (ha0 : h a0 = some (.inl (0, n0, .inl f))) (ha : h a = some (.inl (0, n1, .inl g))) (h1 : ¬ sp < 0) (h2 : ¬ dp < 0) (h3 : ¬ n < 0) (h4 : sp.toNatClampNeg + n.toNatClampNeg ≤ n0) (h5 : dp.toNatClampNeg + n.toNatClampNeg ≤ n1) (hfr : 1 ≤ (mRm M).frames) (hlo : (st.map fun v => v.category).sum + (nativeFrameWords "java/lang/System" "arraycopy" 5 + 11) ≤ (mRm M).locals) (kk : ∀ sz', SP l X M (pc + 3) lv st (hup h a (.inl (0, n1, .inl (va_cpy f g sp.toNatClampNeg dp.toNatClampNeg n.toNatClampNeg)))) sz' bc bs Q) : SP l X M pc lv (.int n :: .int dp :: .ref a :: .int sp :: .ref a0 :: st) h sz bc bs Q := by
  intro p e s m args below meth c D cA A H locs cells slots ls hs C hh hP hD hS hz hl hc hs2
  obtain ⟨k0, hk0⟩ := hget_at (hs := hs) (by rw [← hh]; exact ha)
  obtain ⟨k1, hk1⟩ := hget_at (hs := hs) (by rw [← hh]; exact ha0)
  refine va_copyi C.1 C.2.1 (C.2.2.1.trans hl.1.symm) C.2.2.2.2.1 (C.2.2.2.2.2.1 _ hw) (C.2.2.2.2.2.1 _ hw2) (C.2.2.2.2.2.1 _ hw3) (C.2.2.2.2.2.1 _ hw4) C.2.2.2.2.2.2.2.2.2.1.1 hP hD hS k1 k0 0 0 (cvS_at (cA := cA) hk1) (cvS_at (cA := cA) hk0) (tysL_at (cA := cA) (k := 0) (by decide)) (tysL_at (cA := cA) (k := 0) (by decide)) rfl h1 h2 h3 h4 h5 (fun _ _ => rfl) hfr hlo d (fun H1 locs1 hP1 hD1 hS1 => ?_)
  rw [show (Sum.inl (cA 0, n1, .inl (va_cpy f g sp.toNatClampNeg dp.toNatClampNeg n.toNatClampNeg)) : va_E) = cvE cA (.inl (0, n1, .inl (va_cpy f g sp.toNatClampNeg dp.toNatClampNeg n.toNatClampNeg))) from rfl, cvS_set] at hP1 hD1
  exact (kk H1.size p e s m args below meth c D cA A H1 locs1 cells slots ls _ C (by rw [hh, (hget_set (hnd_of hD) hk0).2]) hP1 hD1 hS1 rfl hl hc hs2)
def CK (M z : MT) (idx : Nat) : Prop := (Cond.methodLink (mN M).cls idx (mN z) ∈ BIG ∨ ∃ host, Cond.methodLinkNest (mN M).cls idx (mN z) host ∈ lw_tbl) ∧ (mRm z).frames + 1 ≤ (mRm M).frames ∧ 8 + (mL z + 11) + (mRm z).locals ≤ (mRm M).locals
theorem va_A_sub {cA : Nat → ClassId} {A : Nat → Prop} {hs : HS} {sz : Nat} {H : Heap} {s : State} {locs : List Loc} (hD : va_D A (cvS cA hs)) (hS : va_S A s.heap H locs) (hz : H.size = sz) (hA : ∀ q : Nat, s.heap.size ≤ q → A q) : ∀ q : Nat, va_A (cvS cA hs) sz q → A q := by
  intro q hq
  rcases hq with ⟨k, e, hk⟩ | hq
  · exact hD.2 k _ hk
  · exact hA q (by have := hS.1; omega)
theorem Pcm_here {l : Launch} {X : SCR} {M : MT} {p : Program} {s : State} {m : MethodId} {args : Array Value} {meth : Method} {c : Code} {D : va_G} {cA : Nat → ClassId} {A : Nat → Prop} {H : Heap} {locs : List Loc} {hs : HS} {sz : Nat} (C : Cx l X M p s m args meth c D cA A) (hP : va_P D vwCl (cvS cA hs) H) (hD : va_D A (cvS cA hs)) (hS : va_S A s.heap H locs) (hz : H.size = sz) (As : List Value) : ∀ U : State, U.heap = H → s.WarmedH U.vm → Pcm D cA As hs sz As.toArray U := by
  intro U hU hW
  refine ⟨rfl, by rw [hU]; exact hz, by rw [hU]; exact hP, hD.weaken (fun _ _ _ _ => trivial), KS.warm hW C.2.2.2.2.2.2.2.2.2.1, ?_⟩
  rw [hU]
  exact ((C.2.2.2.2.2.2.2.2.2.2.1.kept hS.2.1).narrow (va_A_sub hD hS hz C.2.2.2.2.2.2.2.2.2.2.2.1)).moved hW.alike
theorem sp_fin {p : Program} {l : Launch} {e : Env} {R : Room} {s : State} {m : MethodId} {args : Array Value} {below : List Frame} {meth : Method} {c : Code} {H : Heap} {locs : List Loc} {cells slots mc ms pc : Nat} {Qf : State → Prop} {ls : Array Slot} {st0 rest : List Value} {D : va_G} {cA : Nat → ClassId} {A A1 : Nat → Prop} {Q' : PST} {a : Array Value}
    (hr : vx_Run p l e R s m args below meth c H locs cells slots mc ms (F0 m pc ls st0) rest (Qcm D cA A1 Q' a) (Xcm D cA A1 Q') A1) (hS : va_S A s.heap H locs) (hA1 : ∀ q, A1 q → A q) (hX : ∀ E h' sz', Q' (.inr E) h' sz' → False)
    (kk : ∀ (v : Option Value) (hs' : HS) (H1 : Heap) (locs1 : List Loc), Q' (.inl v) (hget hs') H1.size → va_P D vwCl (cvS cA hs') H1 → va_D A (cvS cA hs') → va_S A s.heap H1 locs1 → W p l e R s m args below meth c H1 locs1 (cells + mc) (slots + ms) Qf (F0 m (pc + 3) ls (v.toList ++ rest))) : W p l e R s m args below meth c H locs cells slots Qf (F0 m pc ls st0) := by
  intro T hT X
  rcases hr T hT X with ⟨v, st₀, t, T', L, h0, X', hL, e1, e2, ⟨⟨v', hs', hv, hq, hp, hd⟩, hF⟩, st⟩ | ⟨q, st₀, t, T', L, E, ce, h0, X', hL, e1, e2, ⟨⟨hs', hq, -⟩, -⟩, -⟩
  · cases hv
    obtain ⟨k1, k2, k3⟩ := vx_keep h0 e1 hS (fun q _ z => hA1 q z) hA1 hL hF
    obtain ⟨t2, a1, b1⟩ := kk v hs' T'.heap (locs ++ L) (by rw [e1]; exact hq) (by rw [e1]; exact hp) (hd.weaken (fun k q _ z => hA1 _ z)) k3 T' rfl X'
    exact ⟨t2, st t2 a1, b1⟩
  · exact (hX E _ _ hq).elim
theorem sp_callVi {l : Launch} {X : SCR} {M : MT} {pc : Nat} {lv : List (Nat × Value)} {st : List Value} {h : HP} {sz bc bs : Nat} {Q : PST} {z : MT} {bc2 bs2 : Nat} {As : List Value} {b ci idx : Nat} {fs st1 : List Value} (hM : MM l z (.ref b :: As) h sz (fun o h' sz' => ∃ r : Int32, o = .inl (some (.int r)) ∧ SP l X M (pc + 3) lv (.int r :: st) h' sz' bc2 bs2 Q)) (hk : mKd z = 0) (d : decode (mB M) pc = .ok (.invokevirtual idx, 3)) (hb : h b = some (.inr (ci, fs))) (hcl : (vwCl[ci]?).map (fun q => q.1) = some (mN z).cls) (hnp : As.length = mNp z) (hck : CK M z idx) (hsum : (st.map fun v => v.category).sum ≤ 8) (hbc : bc = bc2 + (mRm z).cells) (hbs : bs = bs2 + (mRm z).slots) (hst : st1 = As.reverse ++ .ref b :: st)  : SP l X M pc lv st1 h sz bc bs Q := by
  intro p e s m args below meth c D cA A H locs cells slots ls hs C hh hP hD hS hz hl hc hs2
  obtain ⟨⟨hcw, hnp2, hy1, hy2⟩, hM⟩ := hM
  have hM := hM D cA hs hh
  obtain ⟨hlk, hfr, hlo⟩ := hck
  have hsz2 : ls.size = mL M := hl.1
  have hall : ∀ w ∈ callW z, w.before args s = true := fun w hw => C.2.2.2.2.2.1 w (hcw w hw)
  rw [show callW z = [Cond.instanceMethod (mN z), Cond.selects (mN z).cls (mN z) (mN z), Cond.initialized (mN z).cls, Cond.code (mN z) (mB z) (mL z) (mRt z)] by simp [callW, hk]] at hcw hall
  have hpay : ∀ w ∈ mWs z, ∀ (a' : Array Value) (U : State), s.WarmedH U.vm → w.before a' U = true := by
    intro w hw a' U hW
    rcases List.mem_cons.mp hw with hw | hw
    · subst hw; exact word_at hW (big_good (hcw _ (by simp))) (hall _ (by simp))
    · exact word_at hW (big_good hw) (C.2.2.2.2.2.1 _ hw)
  have hnn : ∀ sig, parseMethodDescriptor (mN z).desc = some sig → mNp z = sig.parameters.length := fun sig hsig => by rw [hsig] at hnp2; exact (Option.some.inj hnp2).symm
  have hpre := Pcm_here C hP hD hS hz (.ref b :: As)
  have hlr : 2 * (F0 m pc ls st1).monitorRoom + (st.map fun v => v.category).sum ≤ 8 := by show 2 * 0 + _ ≤ 8; omega
  obtain ⟨k0, hk0⟩ := hget_at (hs := hs) (by rw [← hh]; exact hb)
  obtain ⟨q9, hq9, hq8⟩ := Option.map_eq_some_iff.mp hcl
  have hrecv := va_recv C.2.2.2.2.2.2.2.2.2.1.1 hP hq9 (cvS_at (cA := cA) hk0)
  rw [hq8] at hrecv
  rcases hlk with hlk | ⟨host, hlk⟩
  · refine sp_fin (vx_runV (As := As) (rest := st) (C := (mN z).cls) (index := idx) ⟨C.1, C.2.1, C.2.2.1, C.2.2.2.2.1, C.2.2.2.2.2.1⟩ hM ⟨⟨rfl, rfl, hfr, hlo, hpay, List.mem_cons_self, hall _ (by simp), hall _ (by simp), ⟨hy1, hy2⟩, hnn, C.2.2.2.2.2.1 _ hlk⟩, hall _ (by simp), hall _ (by simp)⟩ ⟨Pcm_blind, hrecv, hpre⟩ rfl hnp hsz2 hst hlr d ⟨by omega, by omega⟩) hS (va_A_sub hD hS hz C.2.2.2.2.2.2.2.2.2.2.2.1) (fun E h' sz' z => by obtain ⟨v, z, -⟩ := z; cases z) (fun v hs' H1 locs1 hq hP1 hD1 hS1 => ?_)
    obtain ⟨r', hv', kk⟩ := hq
    cases hv'
    exact kk p e s m args below meth c D cA A H1 locs1 (cells + (mRm z).cells) (slots + (mRm z).slots) ls hs' C rfl hP1 hD1 hS1 rfl hl (by omega) (by omega)
  · refine sp_fin (vx_runVN (As := As) (rest := st) (C := (mN z).cls) (index := idx) (host := host) ⟨C.1, C.2.1, C.2.2.1, C.2.2.2.2.1, C.2.2.2.2.2.1⟩ hM ⟨⟨⟨rfl, rfl, hfr, hlo, hpay, List.mem_cons_self⟩, hall _ (by simp), hall _ (by simp), ⟨hy1, hy2⟩, hnn, va_Nw.use rfl (C.2.2.2.2.2.2.2.2.2.1.2.1 _ hlk rfl)⟩, hall _ (by simp), hall _ (by simp)⟩ ⟨Pcm_blind, hrecv, hpre⟩ rfl hnp hsz2 hst hlr d ⟨by omega, by omega⟩) hS (va_A_sub hD hS hz C.2.2.2.2.2.2.2.2.2.2.2.1) (fun E h' sz' z => by obtain ⟨v, z, -⟩ := z; cases z) (fun v hs' H1 locs1 hq hP1 hD1 hS1 => ?_)
    obtain ⟨r', hv', kk⟩ := hq
    cases hv'
    exact kk p e s m args below meth c D cA A H1 locs1 (cells + (mRm z).cells) (slots + (mRm z).slots) ls hs' C rfl hP1 hD1 hS1 rfl hl (by omega) (by omega)
theorem sp_callSi {l : Launch} {X : SCR} {M : MT} {pc : Nat} {lv : List (Nat × Value)} {st : List Value} {h : HP} {sz bc bs : Nat} {Q : PST} {z : MT} {bc2 bs2 : Nat} {As : List Value} {idx : Nat} {st1 : List Value} (hM : MM l z As h sz (fun o h' sz' => ∃ r : Int32, o = .inl (some (.int r)) ∧ SP l X M (pc + 3) lv (.int r :: st) h' sz' bc2 bs2 Q)) (hk : mKd z = 1) (d : decode (mB M) pc = .ok (.invokestatic idx, 3)) (hnp : As.length = mNp z) (hck : CK M z idx) (hsum : (st.map fun v => v.category).sum ≤ 8) (hbc : bc = bc2 + (mRm z).cells) (hbs : bs = bs2 + (mRm z).slots) (hst : st1 = As.reverse ++ st)  : SP l X M pc lv st1 h sz bc bs Q := by
  intro p e s m args below meth c D cA A H locs cells slots ls hs C hh hP hD hS hz hl hc hs2
  obtain ⟨⟨hcw, hnp2, hy1, hy2⟩, hM⟩ := hM
  have hM := hM D cA hs hh
  obtain ⟨hlk, hfr, hlo⟩ := hck
  have hsz2 : ls.size = mL M := hl.1
  have hall : ∀ w ∈ callW z, w.before args s = true := fun w hw => C.2.2.2.2.2.1 w (hcw w hw)
  rw [show callW z = [Cond.static (mN z), Cond.initialized (mN z).cls, Cond.code (mN z) (mB z) (mL z) (mRt z)] by simp [callW, hk]] at hcw hall
  have hpay : ∀ w ∈ mWs z, ∀ (a' : Array Value) (U : State), s.WarmedH U.vm → w.before a' U = true := by
    intro w hw a' U hW
    rcases List.mem_cons.mp hw with hw | hw
    · subst hw; exact word_at hW (big_good (hcw _ (by simp))) (hall _ (by simp))
    · exact word_at hW (big_good hw) (C.2.2.2.2.2.1 _ hw)
  have hnn : ∀ sig, parseMethodDescriptor (mN z).desc = some sig → mNp z = sig.parameters.length := fun sig hsig => by rw [hsig] at hnp2; exact (Option.some.inj hnp2).symm
  have hpre := Pcm_here C hP hD hS hz (As)
  have hlr : 2 * (F0 m pc ls st1).monitorRoom + (st.map fun v => v.category).sum ≤ 8 := by show 2 * 0 + _ ≤ 8; omega
  rcases hlk with hlk | ⟨host, hlk⟩
  · refine sp_fin (vx_runS (As := As) (rest := st) (index := idx) ⟨C.1, C.2.1, C.2.2.1, C.2.2.2.2.1, C.2.2.2.2.2.1⟩ hM ⟨⟨rfl, rfl, hfr, hlo, hpay, List.mem_cons_self, hall _ (by simp), hall _ (by simp), ⟨hy1, hy2⟩, hnn, C.2.2.2.2.2.1 _ hlk⟩, hall _ (by simp)⟩ ⟨Pcm_blind, hpre⟩ rfl hnp hsz2 hst hlr d ⟨by omega, by omega⟩) hS (va_A_sub hD hS hz C.2.2.2.2.2.2.2.2.2.2.2.1) (fun E h' sz' z => by obtain ⟨v, z, -⟩ := z; cases z) (fun v hs' H1 locs1 hq hP1 hD1 hS1 => ?_)
    obtain ⟨r', hv', kk⟩ := hq
    cases hv'
    exact kk p e s m args below meth c D cA A H1 locs1 (cells + (mRm z).cells) (slots + (mRm z).slots) ls hs' C rfl hP1 hD1 hS1 rfl hl (by omega) (by omega)
  · refine sp_fin (vx_runSN (As := As) (rest := st) (index := idx) (host := host) ⟨C.1, C.2.1, C.2.2.1, C.2.2.2.2.1, C.2.2.2.2.2.1⟩ hM ⟨⟨⟨rfl, rfl, hfr, hlo, hpay, List.mem_cons_self⟩, hall _ (by simp), hall _ (by simp), ⟨hy1, hy2⟩, hnn, va_Nw.use rfl (C.2.2.2.2.2.2.2.2.2.1.2.1 _ hlk rfl)⟩, hall _ (by simp), trivial⟩ ⟨Pcm_blind, hpre⟩ rfl hnp hsz2 hst hlr d ⟨by omega, by omega⟩) hS (va_A_sub hD hS hz C.2.2.2.2.2.2.2.2.2.2.2.1) (fun E h' sz' z => by obtain ⟨v, z, -⟩ := z; cases z) (fun v hs' H1 locs1 hq hP1 hD1 hS1 => ?_)
    obtain ⟨r', hv', kk⟩ := hq
    cases hv'
    exact kk p e s m args below meth c D cA A H1 locs1 (cells + (mRm z).cells) (slots + (mRm z).slots) ls hs' C rfl hP1 hD1 hS1 rfl hl (by omega) (by omega)
theorem sp_callVl {l : Launch} {X : SCR} {M : MT} {pc : Nat} {lv : List (Nat × Value)} {st : List Value} {h : HP} {sz bc bs : Nat} {Q : PST} {z : MT} {bc2 bs2 : Nat} {As : List Value} {b ci idx : Nat} {fs st1 : List Value} (hM : MM l z (.ref b :: As) h sz (fun o h' sz' => ∃ r : Int64, o = .inl (some (.long r)) ∧ SP l X M (pc + 3) lv (.long r :: st) h' sz' bc2 bs2 Q)) (hk : mKd z = 0) (d : decode (mB M) pc = .ok (.invokevirtual idx, 3)) (hb : h b = some (.inr (ci, fs))) (hcl : (vwCl[ci]?).map (fun q => q.1) = some (mN z).cls) (hnp : As.length = mNp z) (hck : CK M z idx) (hsum : (st.map fun v => v.category).sum ≤ 8) (hbc : bc = bc2 + (mRm z).cells) (hbs : bs = bs2 + (mRm z).slots) (hst : st1 = As.reverse ++ .ref b :: st)  : SP l X M pc lv st1 h sz bc bs Q := by
  intro p e s m args below meth c D cA A H locs cells slots ls hs C hh hP hD hS hz hl hc hs2
  obtain ⟨⟨hcw, hnp2, hy1, hy2⟩, hM⟩ := hM
  have hM := hM D cA hs hh
  obtain ⟨hlk, hfr, hlo⟩ := hck
  have hsz2 : ls.size = mL M := hl.1
  have hall : ∀ w ∈ callW z, w.before args s = true := fun w hw => C.2.2.2.2.2.1 w (hcw w hw)
  rw [show callW z = [Cond.instanceMethod (mN z), Cond.selects (mN z).cls (mN z) (mN z), Cond.initialized (mN z).cls, Cond.code (mN z) (mB z) (mL z) (mRt z)] by simp [callW, hk]] at hcw hall
  have hpay : ∀ w ∈ mWs z, ∀ (a' : Array Value) (U : State), s.WarmedH U.vm → w.before a' U = true := by
    intro w hw a' U hW
    rcases List.mem_cons.mp hw with hw | hw
    · subst hw; exact word_at hW (big_good (hcw _ (by simp))) (hall _ (by simp))
    · exact word_at hW (big_good hw) (C.2.2.2.2.2.1 _ hw)
  have hnn : ∀ sig, parseMethodDescriptor (mN z).desc = some sig → mNp z = sig.parameters.length := fun sig hsig => by rw [hsig] at hnp2; exact (Option.some.inj hnp2).symm
  have hpre := Pcm_here C hP hD hS hz (.ref b :: As)
  have hlr : 2 * (F0 m pc ls st1).monitorRoom + (st.map fun v => v.category).sum ≤ 8 := by show 2 * 0 + _ ≤ 8; omega
  obtain ⟨k0, hk0⟩ := hget_at (hs := hs) (by rw [← hh]; exact hb)
  obtain ⟨q9, hq9, hq8⟩ := Option.map_eq_some_iff.mp hcl
  have hrecv := va_recv C.2.2.2.2.2.2.2.2.2.1.1 hP hq9 (cvS_at (cA := cA) hk0)
  rw [hq8] at hrecv
  rcases hlk with hlk | ⟨host, hlk⟩
  · refine sp_fin (vx_runV (As := As) (rest := st) (C := (mN z).cls) (index := idx) ⟨C.1, C.2.1, C.2.2.1, C.2.2.2.2.1, C.2.2.2.2.2.1⟩ hM ⟨⟨rfl, rfl, hfr, hlo, hpay, List.mem_cons_self, hall _ (by simp), hall _ (by simp), ⟨hy1, hy2⟩, hnn, C.2.2.2.2.2.1 _ hlk⟩, hall _ (by simp), hall _ (by simp)⟩ ⟨Pcm_blind, hrecv, hpre⟩ rfl hnp hsz2 hst hlr d ⟨by omega, by omega⟩) hS (va_A_sub hD hS hz C.2.2.2.2.2.2.2.2.2.2.2.1) (fun E h' sz' z => by obtain ⟨v, z, -⟩ := z; cases z) (fun v hs' H1 locs1 hq hP1 hD1 hS1 => ?_)
    obtain ⟨r', hv', kk⟩ := hq
    cases hv'
    exact kk p e s m args below meth c D cA A H1 locs1 (cells + (mRm z).cells) (slots + (mRm z).slots) ls hs' C rfl hP1 hD1 hS1 rfl hl (by omega) (by omega)
  · refine sp_fin (vx_runVN (As := As) (rest := st) (C := (mN z).cls) (index := idx) (host := host) ⟨C.1, C.2.1, C.2.2.1, C.2.2.2.2.1, C.2.2.2.2.2.1⟩ hM ⟨⟨⟨rfl, rfl, hfr, hlo, hpay, List.mem_cons_self⟩, hall _ (by simp), hall _ (by simp), ⟨hy1, hy2⟩, hnn, va_Nw.use rfl (C.2.2.2.2.2.2.2.2.2.1.2.1 _ hlk rfl)⟩, hall _ (by simp), hall _ (by simp)⟩ ⟨Pcm_blind, hrecv, hpre⟩ rfl hnp hsz2 hst hlr d ⟨by omega, by omega⟩) hS (va_A_sub hD hS hz C.2.2.2.2.2.2.2.2.2.2.2.1) (fun E h' sz' z => by obtain ⟨v, z, -⟩ := z; cases z) (fun v hs' H1 locs1 hq hP1 hD1 hS1 => ?_)
    obtain ⟨r', hv', kk⟩ := hq
    cases hv'
    exact kk p e s m args below meth c D cA A H1 locs1 (cells + (mRm z).cells) (slots + (mRm z).slots) ls hs' C rfl hP1 hD1 hS1 rfl hl (by omega) (by omega)
theorem sp_callSl {l : Launch} {X : SCR} {M : MT} {pc : Nat} {lv : List (Nat × Value)} {st : List Value} {h : HP} {sz bc bs : Nat} {Q : PST} {z : MT} {bc2 bs2 : Nat} {As : List Value} {idx : Nat} {st1 : List Value} (hM : MM l z As h sz (fun o h' sz' => ∃ r : Int64, o = .inl (some (.long r)) ∧ SP l X M (pc + 3) lv (.long r :: st) h' sz' bc2 bs2 Q)) (hk : mKd z = 1) (d : decode (mB M) pc = .ok (.invokestatic idx, 3)) (hnp : As.length = mNp z) (hck : CK M z idx) (hsum : (st.map fun v => v.category).sum ≤ 8) (hbc : bc = bc2 + (mRm z).cells) (hbs : bs = bs2 + (mRm z).slots) (hst : st1 = As.reverse ++ st)  : SP l X M pc lv st1 h sz bc bs Q := by
  intro p e s m args below meth c D cA A H locs cells slots ls hs C hh hP hD hS hz hl hc hs2
  obtain ⟨⟨hcw, hnp2, hy1, hy2⟩, hM⟩ := hM
  have hM := hM D cA hs hh
  obtain ⟨hlk, hfr, hlo⟩ := hck
  have hsz2 : ls.size = mL M := hl.1
  have hall : ∀ w ∈ callW z, w.before args s = true := fun w hw => C.2.2.2.2.2.1 w (hcw w hw)
  rw [show callW z = [Cond.static (mN z), Cond.initialized (mN z).cls, Cond.code (mN z) (mB z) (mL z) (mRt z)] by simp [callW, hk]] at hcw hall
  have hpay : ∀ w ∈ mWs z, ∀ (a' : Array Value) (U : State), s.WarmedH U.vm → w.before a' U = true := by
    intro w hw a' U hW
    rcases List.mem_cons.mp hw with hw | hw
    · subst hw; exact word_at hW (big_good (hcw _ (by simp))) (hall _ (by simp))
    · exact word_at hW (big_good hw) (C.2.2.2.2.2.1 _ hw)
  have hnn : ∀ sig, parseMethodDescriptor (mN z).desc = some sig → mNp z = sig.parameters.length := fun sig hsig => by rw [hsig] at hnp2; exact (Option.some.inj hnp2).symm
  have hpre := Pcm_here C hP hD hS hz (As)
  have hlr : 2 * (F0 m pc ls st1).monitorRoom + (st.map fun v => v.category).sum ≤ 8 := by show 2 * 0 + _ ≤ 8; omega
  rcases hlk with hlk | ⟨host, hlk⟩
  · refine sp_fin (vx_runS (As := As) (rest := st) (index := idx) ⟨C.1, C.2.1, C.2.2.1, C.2.2.2.2.1, C.2.2.2.2.2.1⟩ hM ⟨⟨rfl, rfl, hfr, hlo, hpay, List.mem_cons_self, hall _ (by simp), hall _ (by simp), ⟨hy1, hy2⟩, hnn, C.2.2.2.2.2.1 _ hlk⟩, hall _ (by simp)⟩ ⟨Pcm_blind, hpre⟩ rfl hnp hsz2 hst hlr d ⟨by omega, by omega⟩) hS (va_A_sub hD hS hz C.2.2.2.2.2.2.2.2.2.2.2.1) (fun E h' sz' z => by obtain ⟨v, z, -⟩ := z; cases z) (fun v hs' H1 locs1 hq hP1 hD1 hS1 => ?_)
    obtain ⟨r', hv', kk⟩ := hq
    cases hv'
    exact kk p e s m args below meth c D cA A H1 locs1 (cells + (mRm z).cells) (slots + (mRm z).slots) ls hs' C rfl hP1 hD1 hS1 rfl hl (by omega) (by omega)
  · refine sp_fin (vx_runSN (As := As) (rest := st) (index := idx) (host := host) ⟨C.1, C.2.1, C.2.2.1, C.2.2.2.2.1, C.2.2.2.2.2.1⟩ hM ⟨⟨⟨rfl, rfl, hfr, hlo, hpay, List.mem_cons_self⟩, hall _ (by simp), hall _ (by simp), ⟨hy1, hy2⟩, hnn, va_Nw.use rfl (C.2.2.2.2.2.2.2.2.2.1.2.1 _ hlk rfl)⟩, hall _ (by simp), trivial⟩ ⟨Pcm_blind, hpre⟩ rfl hnp hsz2 hst hlr d ⟨by omega, by omega⟩) hS (va_A_sub hD hS hz C.2.2.2.2.2.2.2.2.2.2.2.1) (fun E h' sz' z => by obtain ⟨v, z, -⟩ := z; cases z) (fun v hs' H1 locs1 hq hP1 hD1 hS1 => ?_)
    obtain ⟨r', hv', kk⟩ := hq
    cases hv'
    exact kk p e s m args below meth c D cA A H1 locs1 (cells + (mRm z).cells) (slots + (mRm z).slots) ls hs' C rfl hP1 hD1 hS1 rfl hl (by omega) (by omega)
theorem sp_callVv {l : Launch} {X : SCR} {M : MT} {pc : Nat} {lv : List (Nat × Value)} {st : List Value} {h : HP} {sz bc bs : Nat} {Q : PST} {z : MT} {bc2 bs2 : Nat} {As : List Value} {b ci idx : Nat} {fs st1 : List Value} (hM : MM l z (.ref b :: As) h sz (fun o h' sz' => ∃ r : Unit, o = .inl (none) ∧ SP l X M (pc + 3) lv st h' sz' bc2 bs2 Q)) (hk : mKd z = 0) (d : decode (mB M) pc = .ok (.invokevirtual idx, 3)) (hb : h b = some (.inr (ci, fs))) (hcl : (vwCl[ci]?).map (fun q => q.1) = some (mN z).cls) (hnp : As.length = mNp z) (hck : CK M z idx) (hsum : (st.map fun v => v.category).sum ≤ 8) (hbc : bc = bc2 + (mRm z).cells) (hbs : bs = bs2 + (mRm z).slots) (hst : st1 = As.reverse ++ .ref b :: st)  : SP l X M pc lv st1 h sz bc bs Q := by
  intro p e s m args below meth c D cA A H locs cells slots ls hs C hh hP hD hS hz hl hc hs2
  obtain ⟨⟨hcw, hnp2, hy1, hy2⟩, hM⟩ := hM
  have hM := hM D cA hs hh
  obtain ⟨hlk, hfr, hlo⟩ := hck
  have hsz2 : ls.size = mL M := hl.1
  have hall : ∀ w ∈ callW z, w.before args s = true := fun w hw => C.2.2.2.2.2.1 w (hcw w hw)
  rw [show callW z = [Cond.instanceMethod (mN z), Cond.selects (mN z).cls (mN z) (mN z), Cond.initialized (mN z).cls, Cond.code (mN z) (mB z) (mL z) (mRt z)] by simp [callW, hk]] at hcw hall
  have hpay : ∀ w ∈ mWs z, ∀ (a' : Array Value) (U : State), s.WarmedH U.vm → w.before a' U = true := by
    intro w hw a' U hW
    rcases List.mem_cons.mp hw with hw | hw
    · subst hw; exact word_at hW (big_good (hcw _ (by simp))) (hall _ (by simp))
    · exact word_at hW (big_good hw) (C.2.2.2.2.2.1 _ hw)
  have hnn : ∀ sig, parseMethodDescriptor (mN z).desc = some sig → mNp z = sig.parameters.length := fun sig hsig => by rw [hsig] at hnp2; exact (Option.some.inj hnp2).symm
  have hpre := Pcm_here C hP hD hS hz (.ref b :: As)
  have hlr : 2 * (F0 m pc ls st1).monitorRoom + (st.map fun v => v.category).sum ≤ 8 := by show 2 * 0 + _ ≤ 8; omega
  obtain ⟨k0, hk0⟩ := hget_at (hs := hs) (by rw [← hh]; exact hb)
  obtain ⟨q9, hq9, hq8⟩ := Option.map_eq_some_iff.mp hcl
  have hrecv := va_recv C.2.2.2.2.2.2.2.2.2.1.1 hP hq9 (cvS_at (cA := cA) hk0)
  rw [hq8] at hrecv
  rcases hlk with hlk | ⟨host, hlk⟩
  · refine sp_fin (vx_runV (As := As) (rest := st) (C := (mN z).cls) (index := idx) ⟨C.1, C.2.1, C.2.2.1, C.2.2.2.2.1, C.2.2.2.2.2.1⟩ hM ⟨⟨rfl, rfl, hfr, hlo, hpay, List.mem_cons_self, hall _ (by simp), hall _ (by simp), ⟨hy1, hy2⟩, hnn, C.2.2.2.2.2.1 _ hlk⟩, hall _ (by simp), hall _ (by simp)⟩ ⟨Pcm_blind, hrecv, hpre⟩ rfl hnp hsz2 hst hlr d ⟨by omega, by omega⟩) hS (va_A_sub hD hS hz C.2.2.2.2.2.2.2.2.2.2.2.1) (fun E h' sz' z => by obtain ⟨v, z, -⟩ := z; cases z) (fun v hs' H1 locs1 hq hP1 hD1 hS1 => ?_)
    obtain ⟨r', hv', kk⟩ := hq
    cases hv'
    exact kk p e s m args below meth c D cA A H1 locs1 (cells + (mRm z).cells) (slots + (mRm z).slots) ls hs' C rfl hP1 hD1 hS1 rfl hl (by omega) (by omega)
  · refine sp_fin (vx_runVN (As := As) (rest := st) (C := (mN z).cls) (index := idx) (host := host) ⟨C.1, C.2.1, C.2.2.1, C.2.2.2.2.1, C.2.2.2.2.2.1⟩ hM ⟨⟨⟨rfl, rfl, hfr, hlo, hpay, List.mem_cons_self⟩, hall _ (by simp), hall _ (by simp), ⟨hy1, hy2⟩, hnn, va_Nw.use rfl (C.2.2.2.2.2.2.2.2.2.1.2.1 _ hlk rfl)⟩, hall _ (by simp), hall _ (by simp)⟩ ⟨Pcm_blind, hrecv, hpre⟩ rfl hnp hsz2 hst hlr d ⟨by omega, by omega⟩) hS (va_A_sub hD hS hz C.2.2.2.2.2.2.2.2.2.2.2.1) (fun E h' sz' z => by obtain ⟨v, z, -⟩ := z; cases z) (fun v hs' H1 locs1 hq hP1 hD1 hS1 => ?_)
    obtain ⟨r', hv', kk⟩ := hq
    cases hv'
    exact kk p e s m args below meth c D cA A H1 locs1 (cells + (mRm z).cells) (slots + (mRm z).slots) ls hs' C rfl hP1 hD1 hS1 rfl hl (by omega) (by omega)
theorem sp_callSv {l : Launch} {X : SCR} {M : MT} {pc : Nat} {lv : List (Nat × Value)} {st : List Value} {h : HP} {sz bc bs : Nat} {Q : PST} {z : MT} {bc2 bs2 : Nat} {As : List Value} {idx : Nat} {st1 : List Value} (hM : MM l z As h sz (fun o h' sz' => ∃ r : Unit, o = .inl (none) ∧ SP l X M (pc + 3) lv st h' sz' bc2 bs2 Q)) (hk : mKd z = 1) (d : decode (mB M) pc = .ok (.invokestatic idx, 3)) (hnp : As.length = mNp z) (hck : CK M z idx) (hsum : (st.map fun v => v.category).sum ≤ 8) (hbc : bc = bc2 + (mRm z).cells) (hbs : bs = bs2 + (mRm z).slots) (hst : st1 = As.reverse ++ st)  : SP l X M pc lv st1 h sz bc bs Q := by
  intro p e s m args below meth c D cA A H locs cells slots ls hs C hh hP hD hS hz hl hc hs2
  obtain ⟨⟨hcw, hnp2, hy1, hy2⟩, hM⟩ := hM
  have hM := hM D cA hs hh
  obtain ⟨hlk, hfr, hlo⟩ := hck
  have hsz2 : ls.size = mL M := hl.1
  have hall : ∀ w ∈ callW z, w.before args s = true := fun w hw => C.2.2.2.2.2.1 w (hcw w hw)
  rw [show callW z = [Cond.static (mN z), Cond.initialized (mN z).cls, Cond.code (mN z) (mB z) (mL z) (mRt z)] by simp [callW, hk]] at hcw hall
  have hpay : ∀ w ∈ mWs z, ∀ (a' : Array Value) (U : State), s.WarmedH U.vm → w.before a' U = true := by
    intro w hw a' U hW
    rcases List.mem_cons.mp hw with hw | hw
    · subst hw; exact word_at hW (big_good (hcw _ (by simp))) (hall _ (by simp))
    · exact word_at hW (big_good hw) (C.2.2.2.2.2.1 _ hw)
  have hnn : ∀ sig, parseMethodDescriptor (mN z).desc = some sig → mNp z = sig.parameters.length := fun sig hsig => by rw [hsig] at hnp2; exact (Option.some.inj hnp2).symm
  have hpre := Pcm_here C hP hD hS hz (As)
  have hlr : 2 * (F0 m pc ls st1).monitorRoom + (st.map fun v => v.category).sum ≤ 8 := by show 2 * 0 + _ ≤ 8; omega
  rcases hlk with hlk | ⟨host, hlk⟩
  · refine sp_fin (vx_runS (As := As) (rest := st) (index := idx) ⟨C.1, C.2.1, C.2.2.1, C.2.2.2.2.1, C.2.2.2.2.2.1⟩ hM ⟨⟨rfl, rfl, hfr, hlo, hpay, List.mem_cons_self, hall _ (by simp), hall _ (by simp), ⟨hy1, hy2⟩, hnn, C.2.2.2.2.2.1 _ hlk⟩, hall _ (by simp)⟩ ⟨Pcm_blind, hpre⟩ rfl hnp hsz2 hst hlr d ⟨by omega, by omega⟩) hS (va_A_sub hD hS hz C.2.2.2.2.2.2.2.2.2.2.2.1) (fun E h' sz' z => by obtain ⟨v, z, -⟩ := z; cases z) (fun v hs' H1 locs1 hq hP1 hD1 hS1 => ?_)
    obtain ⟨r', hv', kk⟩ := hq
    cases hv'
    exact kk p e s m args below meth c D cA A H1 locs1 (cells + (mRm z).cells) (slots + (mRm z).slots) ls hs' C rfl hP1 hD1 hS1 rfl hl (by omega) (by omega)
  · refine sp_fin (vx_runSN (As := As) (rest := st) (index := idx) (host := host) ⟨C.1, C.2.1, C.2.2.1, C.2.2.2.2.1, C.2.2.2.2.2.1⟩ hM ⟨⟨⟨rfl, rfl, hfr, hlo, hpay, List.mem_cons_self⟩, hall _ (by simp), hall _ (by simp), ⟨hy1, hy2⟩, hnn, va_Nw.use rfl (C.2.2.2.2.2.2.2.2.2.1.2.1 _ hlk rfl)⟩, hall _ (by simp), trivial⟩ ⟨Pcm_blind, hpre⟩ rfl hnp hsz2 hst hlr d ⟨by omega, by omega⟩) hS (va_A_sub hD hS hz C.2.2.2.2.2.2.2.2.2.2.2.1) (fun E h' sz' z => by obtain ⟨v, z, -⟩ := z; cases z) (fun v hs' H1 locs1 hq hP1 hD1 hS1 => ?_)
    obtain ⟨r', hv', kk⟩ := hq
    cases hv'
    exact kk p e s m args below meth c D cA A H1 locs1 (cells + (mRm z).cells) (slots + (mRm z).slots) ls hs' C rfl hP1 hD1 hS1 rfl hl (by omega) (by omega)
theorem sp_callIv {l : Launch} {X : SCR} {M : MT} {pc : Nat} {lv : List (Nat × Value)} {st : List Value} {h : HP} {sz bc bs : Nat} {Q : PST} {z : MT} {bc2 bs2 : Nat} {As : List Value} {b idx : Nat} {st1 : List Value} (hM : MM l z (.ref b :: As) h sz (fun o h' sz' => ∃ r : Unit, o = .inl (none) ∧ SP l X M (pc + 3) lv st h' sz' bc2 bs2 Q)) (hk : mKd z = 2) (hrt : mRt z = none) (hnm : (mN z).name = "<init>") (d : decode (mB M) pc = .ok (.invokespecial idx, 3)) (hnp : As.length = mNp z) (hck : CK M z idx) (hsum : (st.map fun v => v.category).sum ≤ 8) (hbc : bc = bc2 + (mRm z).cells) (hbs : bs = bs2 + (mRm z).slots) (hst : st1 = As.reverse ++ .ref b :: st)  : SP l X M pc lv st1 h sz bc bs Q := by
  intro p e s m args below meth c D cA A H locs cells slots ls hs C hh hP hD hS hz hl hc hs2
  obtain ⟨⟨hcw, hnp2, hy1, hy2⟩, hM⟩ := hM
  have hM := hM D cA hs hh
  obtain ⟨hlk, hfr, hlo⟩ := hck
  have hsz2 : ls.size = mL M := hl.1
  have hall : ∀ w ∈ callW z, w.before args s = true := fun w hw => C.2.2.2.2.2.1 w (hcw w hw)
  rw [show callW z = [Cond.instanceMethod (mN z), Cond.initialized (mN z).cls, Cond.code (mN z) (mB z) (mL z) (mRt z)] by simp [callW, hk]] at hcw hall
  have hpay : ∀ w ∈ mWs z, ∀ (a' : Array Value) (U : State), s.WarmedH U.vm → w.before a' U = true := by
    intro w hw a' U hW
    rcases List.mem_cons.mp hw with hw | hw
    · subst hw; exact word_at hW (big_good (hcw _ (by simp))) (hall _ (by simp))
    · exact word_at hW (big_good hw) (C.2.2.2.2.2.1 _ hw)
  have hnn : ∀ sig, parseMethodDescriptor (mN z).desc = some sig → mNp z = sig.parameters.length := fun sig hsig => by rw [hsig] at hnp2; exact (Option.some.inj hnp2).symm
  have hpre := Pcm_here C hP hD hS hz (.ref b :: As)
  have hlr : 2 * (F0 m pc ls st1).monitorRoom + (st.map fun v => v.category).sum ≤ 8 := by show 2 * 0 + _ ≤ 8; omega
  rw [hrt] at hall hcw
  have hcd : Cond.code (mN z) (mB z) (mL z) none ∈ mWs z := by rw [← hrt]; exact List.mem_cons_self
  rcases hlk with hlk | ⟨host, hlk⟩
  · refine sp_fin (vx_runI (As := As) (rest := st) (index := idx) (bytes := mB z) (maxL := mL z) ⟨C.1, C.2.1, C.2.2.1, C.2.2.2.2.1, C.2.2.2.2.2.1⟩ hM ⟨⟨rfl, rfl, hfr, hlo, hpay, hcd, hall _ (by simp), hall _ (by simp), ⟨hy1, hy2⟩, hnn, C.2.2.2.2.2.1 _ hlk⟩, hnm, hall _ (by simp)⟩ ⟨Pcm_blind, hpre⟩ rfl hnp hsz2 hst hlr d ⟨by omega, by omega⟩) hS (va_A_sub hD hS hz C.2.2.2.2.2.2.2.2.2.2.2.1) (fun E h' sz' z => by obtain ⟨v, z, -⟩ := z; cases z) (fun v hs' H1 locs1 hq hP1 hD1 hS1 => ?_)
    obtain ⟨r', hv', kk⟩ := hq
    cases hv'
    exact kk p e s m args below meth c D cA A H1 locs1 (cells + (mRm z).cells) (slots + (mRm z).slots) ls hs' C rfl hP1 hD1 hS1 rfl hl (by omega) (by omega)
  · refine sp_fin (vx_runIN (As := As) (rest := st) (index := idx) (host := host) (bytes := mB z) (maxL := mL z) ⟨C.1, C.2.1, C.2.2.1, C.2.2.2.2.1, C.2.2.2.2.2.1⟩ hM ⟨⟨⟨rfl, rfl, hfr, hlo, hpay, hcd⟩, hall _ (by simp), hall _ (by simp), ⟨hy1, hy2⟩, hnn, va_Nw.use rfl (C.2.2.2.2.2.2.2.2.2.1.2.1 _ hlk rfl)⟩, hnm, hall _ (by simp)⟩ ⟨Pcm_blind, hpre⟩ rfl hnp hsz2 hst hlr d ⟨by omega, by omega⟩) hS (va_A_sub hD hS hz C.2.2.2.2.2.2.2.2.2.2.2.1) (fun E h' sz' z => by obtain ⟨v, z, -⟩ := z; cases z) (fun v hs' H1 locs1 hq hP1 hD1 hS1 => ?_)
    obtain ⟨r', hv', kk⟩ := hq
    cases hv'
    exact kk p e s m args below meth c D cA A H1 locs1 (cells + (mRm z).cells) (slots + (mRm z).slots) ls hs' C rfl hP1 hD1 hS1 rfl hl (by omega) (by omega)
def mWsW (M : MT) (hh : List (Nat × Nat × Nat × Nat)) : List Cond := Cond.codeWith (mN M) (mB M) (mL M) (mRt M) hh :: BIG
def wokW (M : MT) (hh : List (Nat × Nat × Nat × Nat)) : Prop := (∀ w ∈ [Cond.static (mN M), Cond.initialized (mN M).cls, Cond.codeWith (mN M) (mB M) (mL M) (mRt M) hh], w ∈ BIG) ∧ (parseMethodDescriptor (mN M).desc).map (fun d => d.parameters.length) = some (mNp M) ∧ (mN M).cls ≠ "java/lang/invoke/MethodHandle" ∧ (mN M).cls ≠ "java/lang/invoke/VarHandle"
def MMW (l : Launch) (M : MT) (hh : List (Nat × Nat × Nat × Nat)) (args : List Value) (h : HP) (sz : Nat) (Q : PST) : Prop :=
  wokW M hh ∧ ∀ (D : va_G) (cA : Nat → ClassId) (hs : HS), h = hget hs → vx_Met l (mN M) (mWsW M hh) (mRm M) (Pcm D cA args hs sz) (Qcm D cA (va_A (cvS cA hs) sz) Q) (Xcm D cA (va_A (cvS cA hs) sz) Q) (mRm M).cells (mRm M).slots (va_A (cvS cA hs) sz)
theorem MMW_of {l : Launch} {M : MT} {hh : List (Nat × Nat × Nat × Nat)} (hw : wokW M hh) (hp : plainName (mN M).cls = true) {args : List Value} {h : HP} {sz : Nat} {Q : PST} (hlen : (lg_sl args).length ≤ mL M)
    (k : SP l (none, some hh) M 0 (lv_args 0 args) [] h sz (mRm M).cells (mRm M).slots Q) : MMW l M hh args h sz Q := by
  refine ⟨hw, fun D cA hs hh2 => ?_⟩
  refine vx_ofWH (cc := mB M) (maxL := mL M) (ret := mRt M) (hh := hh) hp rfl ?_
  intro p e s m as below meth c s₁ B hml hv
  obtain ⟨rfl, hsz, hP, hD0, hK, hT⟩ := hv
  have hts := atoms_spec (ws := mWsW M hh) B.pre
  have ht := vx_table (x := mN M) B (hts _ List.mem_cons_self)
  have hD := va_A_D (sz := sz) hD0
  have hl := lv_entry args (n := mL M) hlen
  rw [lg_entry_eq]
  refine k p e s m _ below meth c D cA _ s.heap [] 0 0 _ hs ⟨B.exec, B.bytes, hml, B.returns, findClass_of_methodNamed B.named, fun w hw => hts w (List.mem_cons_of_mem _ hw), B.notSynchronized, fun hi => (name_of_methodNamed B.named B.method).1.trans hi, fun h2 hx => (by cases hx; exact ht), hK, hT, fun q hq => Or.inr (by omega), fun b L xs hX => by cases hX⟩ hh2 hP hD va_S.rf hsz hl (by omega) (by omega)
def HD (own : String) (hh : List (Nat × Nat × Nat × Nat)) (pc : Nat) (E : String) (hpc : Nat) : Prop := ∃ (pre : List (Nat × Nat × Nat × Nat)) (x : Nat × Nat × Nat × Nat) (suf : List (Nat × Nat × Nat × Nat)) (name : String), hh = pre ++ x :: suf ∧ (∀ z ∈ pre, z.2.2.2 ≠ 0 ∧ ∃ nm, Cond.classLink own z.2.2.2 nm ∈ BIG ∧ (E, nm) ∈ ncL) ∧ covers ⟨x.1, x.2.1, x.2.2.1, x.2.2.2⟩ pc = true ∧ x.2.2.2 ≠ 0 ∧ Cond.classLink own x.2.2.2 name ∈ BIG ∧ Cond.castable E name ∈ lw_tbl ∧ hpc = x.2.2.1
theorem sp_finX {p : Program} {l : Launch} {e : Env} {R : Room} {s : State} {m : MethodId} {args : Array Value} {below : List Frame} {meth : Method} {c : Code} {H : Heap} {locs : List Loc} {cells slots mc ms pc : Nat} {Qf : State → Prop} {ls : Array Slot} {st0 rest : List Value} {D : va_G} {cA : Nat → ClassId} {A A1 : Nat → Prop} {Q' : PST} {a : Array Value}
    (hr : vx_Run p l e R s m args below meth c H locs cells slots mc ms (F0 m pc ls st0) rest (Qcm D cA A1 Q' a) (Xcm D cA A1 Q') A1) (hS : va_S A s.heap H locs) (hA1 : ∀ q, A1 q → A q)
    (kx : ∀ (E : String) (q : Addr) (ce : Cell) (hs' : HS) (H1 : Heap) (locs1 : List Loc), Q' (.inr E) (hget hs') H1.size → va_P D vwCl (cvS cA hs') H1 → va_D A (cvS cA hs') → va_S A s.heap H1 locs1 → H1[q]? = some ce → ce.vm = .none → s.vm.findClass E = some ce.cls → vx_W p l e R s m args below meth c H1 locs1 (cells + mc) (slots + ms) Qf (F0 m pc ls rest) q)
    (kk : ∀ (v : Option Value) (hs' : HS) (H1 : Heap) (locs1 : List Loc), Q' (.inl v) (hget hs') H1.size → va_P D vwCl (cvS cA hs') H1 → va_D A (cvS cA hs') → va_S A s.heap H1 locs1 → W p l e R s m args below meth c H1 locs1 (cells + mc) (slots + ms) Qf (F0 m (pc + 3) ls (v.toList ++ rest))) : W p l e R s m args below meth c H locs cells slots Qf (F0 m pc ls st0) := by
  intro T hT X
  rcases hr T hT X with ⟨v, st₀, t, T', L, h0, X', hL, e1, e2, ⟨⟨v', hs', hv, hq, hp, hd⟩, hF⟩, st⟩ | ⟨q, st₀, t, T', L, E, ce, h0, X', hL, e1, e2, ⟨⟨hs', hq, hp, hd⟩, hF⟩, hce, hcv, hcl, st⟩
  · cases hv
    obtain ⟨k1, k2, k3⟩ := vx_keep h0 e1 hS (fun q _ z => hA1 q z) hA1 hL hF
    obtain ⟨t2, a1, b1⟩ := kk v hs' T'.heap (locs ++ L) (by rw [e1]; exact hq) (by rw [e1]; exact hp) (hd.weaken (fun k q _ z => hA1 _ z)) k3 T' rfl X'
    exact ⟨t2, st t2 a1, b1⟩
  · obtain ⟨k1, k2, k3⟩ := vx_keep h0 e1 hS (fun q _ z => hA1 q z) hA1 hL hF
    obtain ⟨t2, a1, b1⟩ := kx E q ce hs' T'.heap (locs ++ L) (by rw [e1]; exact hq) (by rw [e1]; exact hp) (hd.weaken (fun k q _ z => hA1 _ z)) k3 (by rw [e1]; exact hce) hcv hcl T' rfl X'
    exact ⟨t2, st.trans a1, b1⟩
theorem sp_callT {l : Launch} {X : SCR} {M : MT} {pc : Nat} {lv : List (Nat × Value)} {st : List Value} {h : HP} {sz bc bs : Nat} {Q : PST} {hh9 : List (Nat × Nat × Nat × Nat)} {z : MT} {bc2 bs2 : Nat} {As : List Value} {b ci idx : Nat} {fs st1 : List Value} (hM : MM l z (.ref b :: As) h sz (fun o h' sz' => (∃ r : Int32, o = .inl (some (.int r)) ∧ SP l X M (pc + 3) lv (.int r :: st) h' sz' bc2 bs2 Q) ∨ ∃ (E : String) (hpc : Nat), o = .inr E ∧ HD (mN M).cls hh9 pc E hpc ∧ ∀ q : Nat, SP l X M hpc lv [.ref q] h' sz' bc2 bs2 Q)) (hX : X.2 = some hh9) (hk : mKd z = 0) (d : decode (mB M) pc = .ok (.invokevirtual idx, 3)) (hb : h b = some (.inr (ci, fs))) (hcl9 : (vwCl[ci]?).map (fun q => q.1) = some (mN z).cls) (hnp : As.length = mNp z) (hlk9 : Cond.methodLink (mN M).cls idx (mN z) ∈ BIG) (hck : CK M z idx) (hsum : (st.map fun v => v.category).sum ≤ 8) (hbc : bc = bc2 + (mRm z).cells) (hbs : bs = bs2 + (mRm z).slots) (hst : st1 = As.reverse ++ .ref b :: st)  : SP l X M pc lv st1 h sz bc bs Q := by
  intro p e s m args below meth c D cA A H locs cells slots ls hs C hh hP hD hS hz hl hc hs2
  obtain ⟨⟨hcw, hnp2, hy1, hy2⟩, hM⟩ := hM
  have hM := hM D cA hs hh
  obtain ⟨hlk, hfr, hlo⟩ := hck
  have hsz2 : ls.size = mL M := hl.1
  have hall : ∀ w ∈ callW z, w.before args s = true := fun w hw => C.2.2.2.2.2.1 w (hcw w hw)
  rw [show callW z = [Cond.instanceMethod (mN z), Cond.selects (mN z).cls (mN z) (mN z), Cond.initialized (mN z).cls, Cond.code (mN z) (mB z) (mL z) (mRt z)] by simp [callW, hk]] at hcw hall
  have hpay : ∀ w ∈ mWs z, ∀ (a' : Array Value) (U : State), s.WarmedH U.vm → w.before a' U = true := by
    intro w hw a' U hW
    rcases List.mem_cons.mp hw with hw | hw
    · subst hw; exact word_at hW (big_good (hcw _ (by simp))) (hall _ (by simp))
    · exact word_at hW (big_good hw) (C.2.2.2.2.2.1 _ hw)
  have hnn : ∀ sig, parseMethodDescriptor (mN z).desc = some sig → mNp z = sig.parameters.length := fun sig hsig => by rw [hsig] at hnp2; exact (Option.some.inj hnp2).symm
  have hpre := Pcm_here C hP hD hS hz (.ref b :: As)
  have hlr : 2 * (F0 m pc ls st1).monitorRoom + (st.map fun v => v.category).sum ≤ 8 := by show 2 * 0 + _ ≤ 8; omega
  obtain ⟨k0, hk0⟩ := hget_at (hs := hs) (by rw [← hh]; exact hb)
  obtain ⟨q9, hq9, hq8⟩ := Option.map_eq_some_iff.mp hcl9
  have hrecv := va_recv C.2.2.2.2.2.2.2.2.2.1.1 hP hq9 (cvS_at (cA := cA) hk0)
  rw [hq8] at hrecv
  refine sp_finX (vx_runV (As := As) (rest := st) (C := (mN z).cls) (index := idx) ⟨C.1, C.2.1, C.2.2.1, C.2.2.2.2.1, C.2.2.2.2.2.1⟩ hM ⟨⟨rfl, rfl, hfr, hlo, hpay, List.mem_cons_self, hall _ (by simp), hall _ (by simp), ⟨hy1, hy2⟩, hnn, C.2.2.2.2.2.1 _ hlk9⟩, hall _ (by simp), hall _ (by simp)⟩ ⟨Pcm_blind, hrecv, hpre⟩ rfl hnp hsz2 hst hlr d ⟨by omega, by omega⟩) hS (va_A_sub hD hS hz C.2.2.2.2.2.2.2.2.2.2.2.1) (fun E q ce hs' H1 locs1 hq hP1 hD1 hS1 hce hcv hcl => ?_) (fun v hs' H1 locs1 hq hP1 hD1 hS1 => ?_)
  · rcases hq with ⟨r, hr, -⟩ | ⟨E', hpc, hE, ⟨pre, x, suf, name, g1, g2, g3, g4, g5, g6, g7⟩, kk⟩
    · cases hr
    · cases hE
      have htb := C.2.2.2.2.2.2.2.2.1 _ hX
      subst g7
      refine vx_catch C.2.2.2.2.1 (tableOf pre) ⟨x.1, x.2.1, x.2.2.1, x.2.2.2⟩ (tableOf suf) (by rw [htb, g1]; simp [tableOf]) (fun y hy => ?_) g3 g4 (C.2.2.2.2.2.1 _ g5) (va_Nw.use rfl (C.2.2.2.2.2.2.2.2.2.1.2.1 _ g6 rfl)) hce hcv hcl (kk q p e s m args below meth c D cA A H1 locs1 (cells + (mRm z).cells) (slots + (mRm z).slots) ls hs' C rfl hP1 hD1 hS1 rfl hl (by omega) (by omega))
      obtain ⟨z9, hz9, rfl⟩ := List.mem_map.mp hy
      obtain ⟨n1, nm, n2, n3⟩ := g2 z9 hz9
      exact Or.inr ⟨n1, nm, C.2.2.2.2.2.1 _ n2, C.2.2.2.2.2.2.2.2.2.1.2.2.2.2 _ n3⟩
  · rcases hq with ⟨r, hr, kk⟩ | ⟨E', hpc, hE, -⟩
    · cases hr
      exact kk p e s m args below meth c D cA A H1 locs1 (cells + (mRm z).cells) (slots + (mRm z).slots) ls hs' C rfl hP1 hD1 hS1 rfl hl (by omega) (by omega)
    · cases hE
theorem sp_callW {l : Launch} {X : SCR} {M : MT} {pc : Nat} {lv : List (Nat × Value)} {st : List Value} {h : HP} {sz bc bs : Nat} {Q : PST} {hh9 : List (Nat × Nat × Nat × Nat)} {z : MT} {bc2 bs2 : Nat} {As : List Value} {idx : Nat} {st1 : List Value} (hM : MMW l z hh9 As h sz (fun o h' sz' => ∃ r : Int32, o = .inl (some (.int r)) ∧ SP l X M (pc + 3) lv (.int r :: st) h' sz' bc2 bs2 Q)) (d : decode (mB M) pc = .ok (.invokestatic idx, 3)) (hnp : As.length = mNp z) (hlk9 : Cond.methodLink (mN M).cls idx (mN z) ∈ BIG) (hck : CK M z idx) (hsum : (st.map fun v => v.category).sum ≤ 8) (hbc : bc = bc2 + (mRm z).cells) (hbs : bs = bs2 + (mRm z).slots) (hst : st1 = As.reverse ++ st)  : SP l X M pc lv st1 h sz bc bs Q := by
  intro p e s m args below meth c D cA A H locs cells slots ls hs C hh hP hD hS hz hl hc hs2
  obtain ⟨⟨hcw, hnp2, hy1, hy2⟩, hM⟩ := hM
  have hM := hM D cA hs hh
  obtain ⟨-, hfr, hlo⟩ := hck
  have hsz2 : ls.size = mL M := hl.1
  have hall : ∀ w ∈ [Cond.static (mN z), Cond.initialized (mN z).cls, Cond.codeWith (mN z) (mB z) (mL z) (mRt z) hh9], w.before args s = true := fun w hw => C.2.2.2.2.2.1 w (hcw w hw)
  have hpay : ∀ w ∈ mWsW z hh9, ∀ (a' : Array Value) (U : State), s.WarmedH U.vm → w.before a' U = true := by
    intro w hw a' U hW
    rcases List.mem_cons.mp hw with hw | hw
    · subst hw; exact word_at hW (big_good (hcw _ (by simp))) (hall _ (by simp))
    · exact word_at hW (big_good hw) (C.2.2.2.2.2.1 _ hw)
  have hnn : ∀ sig, parseMethodDescriptor (mN z).desc = some sig → mNp z = sig.parameters.length := fun sig hsig => by rw [hsig] at hnp2; exact (Option.some.inj hnp2).symm
  have hpre := Pcm_here C hP hD hS hz As
  have hlr : 2 * (F0 m pc ls st1).monitorRoom + (st.map fun v => v.category).sum ≤ 8 := by show 2 * 0 + _ ≤ 8; omega
  refine sp_fin (vx_runSX (As := As) (rest := st) (index := idx) (hh := hh9) ⟨C.1, C.2.1, C.2.2.1, C.2.2.2.2.1, C.2.2.2.2.2.1⟩ hM ⟨⟨rfl, rfl, hfr, hlo, hpay, List.mem_cons_self⟩, hall _ (by simp), hall _ (by simp), ⟨hy1, hy2⟩, hnn, C.2.2.2.2.2.1 _ hlk9, hall _ (by simp)⟩ ⟨Pcm_blind, hpre⟩ rfl hnp hsz2 hst hlr d ⟨by omega, by omega⟩) hS (va_A_sub hD hS hz C.2.2.2.2.2.2.2.2.2.2.2.1) (fun E h' sz' z => by obtain ⟨v, z, -⟩ := z; cases z) (fun v hs' H1 locs1 hq hP1 hD1 hS1 => ?_)
  obtain ⟨r', hv', kk⟩ := hq
  cases hv'
  exact kk p e s m args below meth c D cA A H1 locs1 (cells + (mRm z).cells) (slots + (mRm z).slots) ls hs' C rfl hP1 hD1 hS1 rfl hl (by omega) (by omega)
def THR (own : String) (ik is ic : Nat) (E text : String) : Prop := Cond.classLink own ik E ∈ BIG ∧ Cond.initialized E ∈ BIG ∧ Cond.stringRef own is text ∈ lw_tbl ∧ Bundle.fit E = true ∧ (∀ w ∈ (vx_atS own ic E ["java/lang/RuntimeException", "java/lang/Exception"]).filter goodWord, w ∈ BIG) ∧ (∀ w ∈ (vx_atS own ic E ["java/lang/RuntimeException", "java/lang/Exception"]).filter (fun w => !goodWord w), w ∈ lw_tbl ∧ isWarm w = true) ∧ ((vx_atS own ic E ["java/lang/RuntimeException", "java/lang/Exception"]).all vx_ot = true)
theorem fitN : ∀ n ∈ ["java/lang/RuntimeException", "java/lang/Exception"], Bundle.fit n = true := by decide
theorem sp_throwS {l : Launch} {X : SCR} {M : MT} {pc : Nat} {lv : List (Nat × Value)} {st : List Value} {h : HP} {sz bc bs : Nat} {Q : PST} {ik is ic : Nat} {E text : String} (hT : THR (mN M).cls ik is ic E text) (hlt : l.stackTraces = false) (hX2 : X.2 = some []) (d0 : decode (mB M) pc = .ok (.new ik, 3)) (d3 : decode (mB M) (pc + 3) = .ok (.dup, 1)) (d4 : decode (mB M) (pc + 4) = .ok (.ldc is, 2)) (d6 : decode (mB M) (pc + 6) = .ok (.invokespecial ic, 3)) (d9 : decode (mB M) (pc + 9) = .ok (.athrow, 1)) (hfr : 6 ≤ (mRm M).frames) (hlo : (st.map fun v => v.category).sum + 82 ≤ (mRm M).locals) (hbc : 1 ≤ bc) (hbs : 6 ≤ bs) (hq : ∀ sz', Q (.inr E) h sz') : SP l X M pc lv st h sz bc bs Q := by
  intro p e s m args below meth c D cA A H locs cells slots ls hs C hh hP hD hS hz hl hc hs2
  obtain ⟨w1, w2, w3, w4, w5, w6, w7⟩ := hT
  obtain ⟨sa, hsa⟩ := C.2.2.2.2.2.2.2.2.2.1.2.2.1 _ _ _ w3
  have g1 : vx_ot (Cond.classLink (mN M).cls ik E) = true := by unfold vx_ot; rw [(List.mem_filter.mp w1).2]; exact Bool.or_true _
  have g2 : vx_ot (Cond.initialized E) = true := by unfold vx_ot; rw [(List.mem_filter.mp w2).2]; exact Bool.or_true _
  refine vx_throwS (rest := st) (names := ["java/lang/RuntimeException", "java/lang/Exception"]) C.1 C.2.1 hlt C.2.2.2.2.1 w4 fitN (C.2.2.2.2.2.1 _ w1) (C.2.2.2.2.2.1 _ w2) hsa (vx_hat (fun w hw => C.2.2.2.2.2.1 _ (w5 w hw)) (fun w hw => hw) (fun w hw => va_Nw.use (isWarm_tabs (w6 w hw).2) (C.2.2.2.2.2.2.2.2.2.1.2.1 _ (w6 w hw).1 (w6 w hw).2))) (fun w hw => ?_) C.2.2.2.2.2.2.2.2.2.2.1.1 C.2.2.2.2.2.2.2.2.2.2.1.2 hS (hl.1.trans C.2.2.1.symm) d0 d3 d4 d6 d9 (fun x hx => by rw [C.2.2.2.2.2.2.2.2.1 _ hX2] at hx; cases hx) (by show 2 + 3 < _; omega) (by show _ + (13 * (2 + 1) + 43) ≤ _; omega) (by omega) (by omega) C.2.2.2.2.2.2.1 (fun t ht hsz9 hq9 => ?_) hS.2.2 (by omega) (by omega)
  · rcases List.mem_cons.mp hw with hw | hw
    · rw [hw]; exact g1
    rcases List.mem_cons.mp hw with hw | hw
    · rw [hw]; exact g2
    exact List.all_eq_true.mp w7 w hw
  · refine ⟨⟨hs, by rw [← hh]; exact hq _, hP.kept (fun k q hk => hq9 q.1 (hP k q hk).lt), hD⟩, Nat.le_trans hS.1 hsz9, fun q h1 h2 => ?_⟩
    rw [hq9 q (Nat.lt_of_lt_of_le h1 hS.1)]
    exact hS.2.1 q h1 h2
theorem sp_throwSW {l : Launch} {X : SCR} {M : MT} {pc : Nat} {lv : List (Nat × Value)} {st : List Value} {h : HP} {sz bc bs : Nat} {Q : PST} {ik is ic : Nat} {E text : String} (hT : THR (mN M).cls ik is ic E text) (hlt : l.stackTraces = false) (hX2 : X.2 = some []) (d0 : decode (mB M) pc = .ok (.new ik, 3)) (d3 : decode (mB M) (pc + 3) = .ok (.dup, 1)) (d4 : decode (mB M) (pc + 4) = .ok (.ldc_w is, 3)) (d6 : decode (mB M) (pc + 7) = .ok (.invokespecial ic, 3)) (d9 : decode (mB M) (pc + 10) = .ok (.athrow, 1)) (hfr : 6 ≤ (mRm M).frames) (hlo : (st.map fun v => v.category).sum + 82 ≤ (mRm M).locals) (hbc : 1 ≤ bc) (hbs : 6 ≤ bs) (hq : ∀ sz', Q (.inr E) h sz') : SP l X M pc lv st h sz bc bs Q := by
  intro p e s m args below meth c D cA A H locs cells slots ls hs C hh hP hD hS hz hl hc hs2
  obtain ⟨w1, w2, w3, w4, w5, w6, w7⟩ := hT
  obtain ⟨sa, hsa⟩ := C.2.2.2.2.2.2.2.2.2.1.2.2.1 _ _ _ w3
  have g1 : vx_ot (Cond.classLink (mN M).cls ik E) = true := by unfold vx_ot; rw [(List.mem_filter.mp w1).2]; exact Bool.or_true _
  have g2 : vx_ot (Cond.initialized E) = true := by unfold vx_ot; rw [(List.mem_filter.mp w2).2]; exact Bool.or_true _
  refine vx_throwSW (rest := st) (names := ["java/lang/RuntimeException", "java/lang/Exception"]) C.1 C.2.1 hlt C.2.2.2.2.1 w4 fitN (C.2.2.2.2.2.1 _ w1) (C.2.2.2.2.2.1 _ w2) hsa (vx_hat (fun w hw => C.2.2.2.2.2.1 _ (w5 w hw)) (fun w hw => hw) (fun w hw => va_Nw.use (isWarm_tabs (w6 w hw).2) (C.2.2.2.2.2.2.2.2.2.1.2.1 _ (w6 w hw).1 (w6 w hw).2))) (fun w hw => ?_) C.2.2.2.2.2.2.2.2.2.2.1.1 C.2.2.2.2.2.2.2.2.2.2.1.2 hS (hl.1.trans C.2.2.1.symm) d0 d3 d4 d6 d9 (fun x hx => by rw [C.2.2.2.2.2.2.2.2.1 _ hX2] at hx; cases hx) (by show 2 + 3 < _; omega) (by show _ + (13 * (2 + 1) + 43) ≤ _; omega) (by omega) (by omega) C.2.2.2.2.2.2.1 (fun t ht hsz9 hq9 => ?_) hS.2.2 (by omega) (by omega)
  · rcases List.mem_cons.mp hw with hw | hw
    · rw [hw]; exact g1
    rcases List.mem_cons.mp hw with hw | hw
    · rw [hw]; exact g2
    exact List.all_eq_true.mp w7 w hw
  · refine ⟨⟨hs, by rw [← hh]; exact hq _, hP.kept (fun k q hk => hq9 q.1 (hP k q hk).lt), hD⟩, Nat.le_trans hS.1 hsz9, fun q h1 h2 => ?_⟩
    rw [hq9 q (Nat.lt_of_lt_of_le h1 hS.1)]
    exact hS.2.1 q h1 h2
end
section
/-! what a program reads and writes in a world, as partial functions; the same rows over them -/
theorem ob {α β : Type} {o : Option α} {f : α → Option β} {r : β} (h : o.bind f = some r) : ∃ x, o = some x ∧ f x = some r := by
  cases o with
  | none => cases h
  | some x => exact ⟨x, rfl, h⟩
def kO (ci : Nat) (h : HP) (a : Nat) : Option Unit := match h a with
  | some (.inr (c, _)) => if c = ci then some () else none
  | _ => none
def gI (ci k : Nat) (h : HP) (a : Nat) : Option Int32 := match h a with
  | some (.inr (c, fs)) => if c = ci then (match fs[k]? with
    | some (.int x) => some x
    | _ => none) else none
  | _ => none
def gL (ci k : Nat) (h : HP) (a : Nat) : Option Int64 := match h a with
  | some (.inr (c, fs)) => if c = ci then (match fs[k]? with
    | some (.long x) => some x
    | _ => none) else none
  | _ => none
def gR (ci k : Nat) (h : HP) (a : Nat) : Option Nat := match h a with
  | some (.inr (c, fs)) => if c = ci then (match fs[k]? with
    | some (.ref x) => some x
    | _ => none) else none
  | _ => none
def pV (ci k : Nat) (h : HP) (a : Nat) (v : Value) : Option HP := match h a with
  | some (.inr (c, fs)) => if c = ci ∧ k < fs.length then some (hup h a (.inr (ci, fs.set k v))) else none
  | _ => none
def pI (ci k : Nat) (h : HP) (a : Nat) (x : Int32) : Option HP := pV ci k h a (.int x)
def pL (ci k : Nat) (h : HP) (a : Nat) (x : Int64) : Option HP := pV ci k h a (.long x)
def pR (ci k : Nat) (h : HP) (a : Nat) (x : Nat) : Option HP := pV ci k h a (.ref x)
def bz (x : Int32) : Option Int32 := if x = 0 ∨ x = 1 then some x else none
def aI (h : HP) (a : Nat) (i : Int32) : Option Int32 := match h a with
  | some (.inl (0, n, .inl f)) => if i < 0 ∨ n ≤ i.toNatClampNeg then none else some (f i.toNatClampNeg)
  | _ => none
def aZ (h : HP) (a : Nat) (i : Int32) : Option Int32 := match h a with
  | some (.inl (1, n, .inl f)) => if i < 0 ∨ n ≤ i.toNatClampNeg then none else some (f i.toNatClampNeg)
  | _ => none
def aL (h : HP) (a : Nat) (i : Int32) : Option Int64 := match h a with
  | some (.inl (2, n, .inr (.inl f))) => if i < 0 ∨ n ≤ i.toNatClampNeg then none else some (f i.toNatClampNeg)
  | _ => none
def aR (kd : Nat) (h : HP) (a : Nat) (i : Int32) : Option Nat := match h a with
  | some (.inl (k, n, .inr (.inr (.inr (.inr f))))) => if k = kd then (if i < 0 ∨ n ≤ i.toNatClampNeg then none else f i.toNatClampNeg) else none
  | _ => none
def wI (h : HP) (a : Nat) (i x : Int32) : Option HP := match h a with
  | some (.inl (0, n, .inl f)) => if i < 0 ∨ n ≤ i.toNatClampNeg then none else some (hup h a (.inl (0, n, .inl (upd f i.toNatClampNeg x))))
  | _ => none
def wZ (h : HP) (a : Nat) (i x : Int32) : Option HP := match h a with
  | some (.inl (1, n, .inl f)) => if i < 0 ∨ n ≤ i.toNatClampNeg then none else some (hup h a (.inl (1, n, .inl (upd f i.toNatClampNeg (vp_nar .boolean x)))))
  | _ => none
def wL (h : HP) (a : Nat) (i : Int32) (x : Int64) : Option HP := match h a with
  | some (.inl (2, n, .inr (.inl f))) => if i < 0 ∨ n ≤ i.toNatClampNeg then none else some (hup h a (.inl (2, n, .inr (.inl (vp_updL f i.toNatClampNeg x)))))
  | _ => none
def aN (h : HP) (a : Nat) : Option Int32 := match h a with
  | some (.inl (k, x)) => if k < 5 then some (Int32.ofNat x.1) else none
  | _ => none
def cI (h : HP) (a0 : Nat) (sp : Int32) (a : Nat) (dp n : Int32) : Option HP := match h a0 with
  | some (.inl (0, n0, .inl f)) => (match h a with
    | some (.inl (0, n1, .inl g)) => if sp < 0 ∨ dp < 0 ∨ n < 0 ∨ ¬ (sp.toNatClampNeg + n.toNatClampNeg ≤ n0) ∨ ¬ (dp.toNatClampNeg + n.toNatClampNeg ≤ n1) then none else some (hup h a (.inl (0, n1, .inl (va_cpy f g sp.toNatClampNeg dp.toNatClampNeg n.toNatClampNeg))))
    | _ => none)
  | _ => none
theorem kO_spec {ci : Nat} {h : HP} {a : Nat} {u : Unit} (e : kO ci h a = some u) : ∃ fs, h a = some (.inr (ci, fs)) := by
  unfold kO at e
  split at e
  · split at e
    · rename_i c fs hh hc
      subst hc
      exact ⟨_, hh⟩
    · cases e
  · cases e
theorem pV_spec {ci k : Nat} {h h' : HP} {a : Nat} {v : Value} (e : pV ci k h a v = some h') : ∃ fs, h a = some (.inr (ci, fs)) ∧ k < fs.length ∧ h' = hup h a (.inr (ci, fs.set k v)) := by
  unfold pV at e
  split at e
  · split at e
    · rename_i c fs hh hc
      obtain ⟨hc, hl⟩ := hc
      subst hc
      exact ⟨_, hh, hl, (Option.some.inj e).symm⟩
    · cases e
  · cases e
theorem bz_spec {x r : Int32} (e : bz x = some r) : r = x ∧ narrow .boolean (.int x) = .int x ∧ fits .boolean (.int x) = true := by
  unfold bz at e
  split at e
  · rename_i hx
    refine ⟨(Option.some.inj e).symm, ?_⟩
    rcases hx with rfl | rfl
    · exact ⟨rfl, rfl⟩
    · exact ⟨rfl, rfl⟩
  · cases e

theorem gI_spec {ci k : Nat} {h : HP} {a : Nat} {x : Int32} (e : gI ci k h a = some x) : ∃ fs, h a = some (.inr (ci, fs)) ∧ fs[k]? = some (.int x) := by
  unfold gI at e
  split at e
  · split at e
    · rename_i c fs hh hc
      subst hc
      split at e
      · rename_i y hy
        cases e
        exact ⟨_, hh, hy⟩
      · cases e
    · cases e
  · cases e
theorem sp_gI {l : Launch} {X : SCR} {M : MT} {pc : Nat} {lv : List (Nat × Value)} {st : List Value} {h : HP} {sz bc bs : Nat} {Q : PST} {ci idx kf a : Nat} {x : Int32} (hf : FLD ci (mN M).cls idx kf) (d : decode (mB M) pc = .ok (.getfield idx, 3)) (e : gI ci kf h a = some x) (kk : SP l X M (pc + 3) lv (.int x :: st) h sz bc bs Q) : SP l X M pc lv (.ref a :: st) h sz bc bs Q := by
  obtain ⟨fs, h1, h2⟩ := gI_spec e
  exact sp_get hf d h1 h2 kk
theorem gL_spec {ci k : Nat} {h : HP} {a : Nat} {x : Int64} (e : gL ci k h a = some x) : ∃ fs, h a = some (.inr (ci, fs)) ∧ fs[k]? = some (.long x) := by
  unfold gL at e
  split at e
  · split at e
    · rename_i c fs hh hc
      subst hc
      split at e
      · rename_i y hy
        cases e
        exact ⟨_, hh, hy⟩
      · cases e
    · cases e
  · cases e
theorem sp_gL {l : Launch} {X : SCR} {M : MT} {pc : Nat} {lv : List (Nat × Value)} {st : List Value} {h : HP} {sz bc bs : Nat} {Q : PST} {ci idx kf a : Nat} {x : Int64} (hf : FLD ci (mN M).cls idx kf) (d : decode (mB M) pc = .ok (.getfield idx, 3)) (e : gL ci kf h a = some x) (kk : SP l X M (pc + 3) lv (.long x :: st) h sz bc bs Q) : SP l X M pc lv (.ref a :: st) h sz bc bs Q := by
  obtain ⟨fs, h1, h2⟩ := gL_spec e
  exact sp_get hf d h1 h2 kk
theorem gR_spec {ci k : Nat} {h : HP} {a : Nat} {x : Nat} (e : gR ci k h a = some x) : ∃ fs, h a = some (.inr (ci, fs)) ∧ fs[k]? = some (.ref x) := by
  unfold gR at e
  split at e
  · split at e
    · rename_i c fs hh hc
      subst hc
      split at e
      · rename_i y hy
        cases e
        exact ⟨_, hh, hy⟩
      · cases e
    · cases e
  · cases e
theorem sp_gR {l : Launch} {X : SCR} {M : MT} {pc : Nat} {lv : List (Nat × Value)} {st : List Value} {h : HP} {sz bc bs : Nat} {Q : PST} {ci idx kf a : Nat} {x : Nat} (hf : FLD ci (mN M).cls idx kf) (d : decode (mB M) pc = .ok (.getfield idx, 3)) (e : gR ci kf h a = some x) (kk : SP l X M (pc + 3) lv (.ref x :: st) h sz bc bs Q) : SP l X M pc lv (.ref a :: st) h sz bc bs Q := by
  obtain ⟨fs, h1, h2⟩ := gR_spec e
  exact sp_get hf d h1 h2 kk
theorem sp_pI {l : Launch} {X : SCR} {M : MT} {pc : Nat} {lv : List (Nat × Value)} {st : List Value} {h : HP} {sz bc bs : Nat} {Q : PST} {ci idx kf a : Nat} {x : Int32} {h' : HP} (hf : PFL ci (mN M).cls idx kf .int false) (d : decode (mB M) pc = .ok (.putfield idx, 3)) (e : pI ci kf h a x = some h') (kk : ∀ sz', SP l X M (pc + 3) lv st h' sz' bc bs Q) : SP l X M pc lv (.int x :: .ref a :: st) h sz bc bs Q := by
  obtain ⟨fs, h1, h2, h3⟩ := pV_spec e
  refine sp_put hf d h1 h2 rfl rfl (fun sz' => ?_)
  rw [← h3]
  exact kk sz'
theorem sp_pL {l : Launch} {X : SCR} {M : MT} {pc : Nat} {lv : List (Nat × Value)} {st : List Value} {h : HP} {sz bc bs : Nat} {Q : PST} {ci idx kf a : Nat} {x : Int64} {h' : HP} (hf : PFL ci (mN M).cls idx kf .long false) (d : decode (mB M) pc = .ok (.putfield idx, 3)) (e : pL ci kf h a x = some h') (kk : ∀ sz', SP l X M (pc + 3) lv st h' sz' bc bs Q) : SP l X M pc lv (.long x :: .ref a :: st) h sz bc bs Q := by
  obtain ⟨fs, h1, h2, h3⟩ := pV_spec e
  refine sp_put hf d h1 h2 rfl rfl (fun sz' => ?_)
  rw [← h3]
  exact kk sz'
theorem sp_pZ {l : Launch} {X : SCR} {M : MT} {pc : Nat} {lv : List (Nat × Value)} {st : List Value} {h : HP} {sz bc bs : Nat} {Q : PST} {ci idx kf a : Nat} {x y : Int32} {h' : HP} (hf : PFL ci (mN M).cls idx kf .boolean false) (d : decode (mB M) pc = .ok (.putfield idx, 3)) (eb : bz x = some y) (e : pI ci kf h a y = some h') (kk : ∀ sz', SP l X M (pc + 3) lv st h' sz' bc bs Q) : SP l X M pc lv (.int x :: .ref a :: st) h sz bc bs Q := by
  obtain ⟨b1, b2, b3⟩ := bz_spec eb
  subst b1
  obtain ⟨fs, h1, h2, h3⟩ := pV_spec e
  refine sp_put hf d h1 h2 b2 b3 (fun sz' => ?_)
  rw [← h3]
  exact kk sz'
theorem sp_pRF {l : Launch} {X : SCR} {M : MT} {pc : Nat} {lv : List (Nat × Value)} {st : List Value} {h : HP} {sz bc bs : Nat} {Q : PST} {ci idx kf a x : Nat} {ty : FieldType} {h' : HP} (hf : PFL ci (mN M).cls idx kf ty true) (hini : (mN M).name = "<init>") (d : decode (mB M) pc = .ok (.putfield idx, 3)) (hn : narrow ty (.ref x) = .ref x) (hfit : fits ty (.ref x) = true) (e : pR ci kf h a x = some h') (kk : SP l X M (pc + 3) lv st h' sz bc bs Q) : SP l X M pc lv (.ref x :: .ref a :: st) h sz bc bs Q := by
  obtain ⟨fs, h1, h2, h3⟩ := pV_spec e
  refine sp_putF hf hini d h1 h2 hn hfit ?_
  rw [← h3]
  exact kk
theorem sp_pIX {l : Launch} {X : SCR} {M : MT} {pc : Nat} {lv : List (Nat × Value)} {st : List Value} {h : HP} {sz bc bs : Nat} {Q : PST} {ci idx kf a : Nat} {x : Int32} {h' : HP} (hf : PFL ci (mN M).cls idx kf .int false) (d : decode (mB M) pc = .ok (.putfield idx, 3)) (e : pI ci kf h a x = some h') (kk : SP l X M (pc + 3) lv st h' sz bc bs Q) : SP l X M pc lv (.int x :: .ref a :: st) h sz bc bs Q := by
  obtain ⟨fs, h1, h2, h3⟩ := pV_spec e
  refine sp_putX hf d h1 h2 rfl rfl ?_
  rw [← h3]
  exact kk
theorem aI_spec {h : HP} {a : Nat} {i : Int32} {x : Int32} (e : aI h a i = some x) : ∃ n f, h a = some (.inl (0, n, .inl f)) ∧ vp_in i n ∧ x = f i.toNatClampNeg := by
  unfold aI at e
  split at e
  · split at e
    · cases e
    · rename_i n f hh hc
      exact ⟨_, _, hh, hc, (Option.some.inj e).symm⟩
  · cases e
theorem sp_aI {l : Launch} {X : SCR} {M : MT} {pc : Nat} {lv : List (Nat × Value)} {st : List Value} {h : HP} {sz bc bs : Nat} {Q : PST} {a : Nat} {i : Int32} {x : Int32} (d : decode (mB M) pc = .ok (.iaload, 1)) (e : aI h a i = some x) (kk : SP l X M (pc + 1) lv (.int x :: st) h sz bc bs Q) : SP l X M pc lv (.int i :: .ref a :: st) h sz bc bs Q := by
  obtain ⟨n, f, h1, h2, h3⟩ := aI_spec e
  subst h3
  exact sp_iald d h1 h2 kk
theorem aZ_spec {h : HP} {a : Nat} {i : Int32} {x : Int32} (e : aZ h a i = some x) : ∃ n f, h a = some (.inl (1, n, .inl f)) ∧ vp_in i n ∧ x = f i.toNatClampNeg := by
  unfold aZ at e
  split at e
  · split at e
    · cases e
    · rename_i n f hh hc
      exact ⟨_, _, hh, hc, (Option.some.inj e).symm⟩
  · cases e
theorem sp_aZ {l : Launch} {X : SCR} {M : MT} {pc : Nat} {lv : List (Nat × Value)} {st : List Value} {h : HP} {sz bc bs : Nat} {Q : PST} {a : Nat} {i : Int32} {x : Int32} (d : decode (mB M) pc = .ok (.baload, 1)) (e : aZ h a i = some x) (kk : SP l X M (pc + 1) lv (.int x :: st) h sz bc bs Q) : SP l X M pc lv (.int i :: .ref a :: st) h sz bc bs Q := by
  obtain ⟨n, f, h1, h2, h3⟩ := aZ_spec e
  subst h3
  exact sp_zald d h1 h2 kk
theorem aL_spec {h : HP} {a : Nat} {i : Int32} {x : Int64} (e : aL h a i = some x) : ∃ n f, h a = some (.inl (2, n, .inr (.inl f))) ∧ vp_in i n ∧ x = f i.toNatClampNeg := by
  unfold aL at e
  split at e
  · split at e
    · cases e
    · rename_i n f hh hc
      exact ⟨_, _, hh, hc, (Option.some.inj e).symm⟩
  · cases e
theorem sp_aL {l : Launch} {X : SCR} {M : MT} {pc : Nat} {lv : List (Nat × Value)} {st : List Value} {h : HP} {sz bc bs : Nat} {Q : PST} {a : Nat} {i : Int32} {x : Int64} (d : decode (mB M) pc = .ok (.laload, 1)) (e : aL h a i = some x) (kk : SP l X M (pc + 1) lv (.long x :: st) h sz bc bs Q) : SP l X M pc lv (.int i :: .ref a :: st) h sz bc bs Q := by
  obtain ⟨n, f, h1, h2, h3⟩ := aL_spec e
  subst h3
  exact sp_lald d h1 h2 kk
theorem aR_spec {kd : Nat} {h : HP} {a : Nat} {i : Int32} {x : Nat} (e : aR kd h a i = some x) : ∃ n f, h a = some (.inl (kd, n, .inr (.inr (.inr (.inr f))))) ∧ vp_in i n ∧ f i.toNatClampNeg = some x := by
  unfold aR at e
  split at e
  · split at e
    · rename_i k n f hh hk
      subst hk
      split at e
      · cases e
      · rename_i hc
        exact ⟨_, _, hh, hc, e⟩
    · cases e
  · cases e
theorem sp_aR3 {l : Launch} {X : SCR} {M : MT} {pc : Nat} {lv : List (Nat × Value)} {st : List Value} {h : HP} {sz bc bs : Nat} {Q : PST} {a x : Nat} {i : Int32} (d : decode (mB M) pc = .ok (.aaload, 1)) (e : aR 3 h a i = some x) (kk : SP l X M (pc + 1) lv (.ref x :: st) h sz bc bs Q) : SP l X M pc lv (.int i :: .ref a :: st) h sz bc bs Q := by
  obtain ⟨n, f, h1, h2, h3⟩ := aR_spec e
  exact sp_aald3 d h1 h2 h3 kk
theorem sp_aR4 {l : Launch} {X : SCR} {M : MT} {pc : Nat} {lv : List (Nat × Value)} {st : List Value} {h : HP} {sz bc bs : Nat} {Q : PST} {a x : Nat} {i : Int32} (d : decode (mB M) pc = .ok (.aaload, 1)) (e : aR 4 h a i = some x) (kk : SP l X M (pc + 1) lv (.ref x :: st) h sz bc bs Q) : SP l X M pc lv (.int i :: .ref a :: st) h sz bc bs Q := by
  obtain ⟨n, f, h1, h2, h3⟩ := aR_spec e
  exact sp_aald4 d h1 h2 h3 kk
theorem wI_spec {h h' : HP} {a : Nat} {i : Int32} {x : Int32} (e : wI h a i x = some h') : ∃ n f, h a = some (.inl (0, n, .inl f)) ∧ vp_in i n ∧ h' = hup h a (.inl (0, n, .inl (upd f i.toNatClampNeg x))) := by
  unfold wI at e
  split at e
  · split at e
    · cases e
    · rename_i n f hh hc
      exact ⟨_, _, hh, hc, (Option.some.inj e).symm⟩
  · cases e
theorem sp_wI {l : Launch} {X : SCR} {M : MT} {pc : Nat} {lv : List (Nat × Value)} {st : List Value} {h : HP} {sz bc bs : Nat} {Q : PST} {a : Nat} {i : Int32} {x : Int32} {h' : HP} (d : decode (mB M) pc = .ok (.iastore, 1)) (e : wI h a i x = some h') (kk : ∀ sz', SP l X M (pc + 1) lv st h' sz' bc bs Q) : SP l X M pc lv (.int x :: .int i :: .ref a :: st) h sz bc bs Q := by
  obtain ⟨n, f, h1, h2, h3⟩ := wI_spec e
  refine sp_iast d h1 h2 (fun sz' => ?_)
  rw [← h3]
  exact kk sz'
theorem wZ_spec {h h' : HP} {a : Nat} {i : Int32} {x : Int32} (e : wZ h a i x = some h') : ∃ n f, h a = some (.inl (1, n, .inl f)) ∧ vp_in i n ∧ h' = hup h a (.inl (1, n, .inl (upd f i.toNatClampNeg (vp_nar .boolean x)))) := by
  unfold wZ at e
  split at e
  · split at e
    · cases e
    · rename_i n f hh hc
      exact ⟨_, _, hh, hc, (Option.some.inj e).symm⟩
  · cases e
theorem sp_wZ {l : Launch} {X : SCR} {M : MT} {pc : Nat} {lv : List (Nat × Value)} {st : List Value} {h : HP} {sz bc bs : Nat} {Q : PST} {a : Nat} {i : Int32} {x : Int32} {h' : HP} (d : decode (mB M) pc = .ok (.bastore, 1)) (e : wZ h a i x = some h') (kk : ∀ sz', SP l X M (pc + 1) lv st h' sz' bc bs Q) : SP l X M pc lv (.int x :: .int i :: .ref a :: st) h sz bc bs Q := by
  obtain ⟨n, f, h1, h2, h3⟩ := wZ_spec e
  refine sp_zast d h1 h2 (fun sz' => ?_)
  rw [← h3]
  exact kk sz'
theorem wL_spec {h h' : HP} {a : Nat} {i : Int32} {x : Int64} (e : wL h a i x = some h') : ∃ n f, h a = some (.inl (2, n, .inr (.inl f))) ∧ vp_in i n ∧ h' = hup h a (.inl (2, n, .inr (.inl (vp_updL f i.toNatClampNeg x)))) := by
  unfold wL at e
  split at e
  · split at e
    · cases e
    · rename_i n f hh hc
      exact ⟨_, _, hh, hc, (Option.some.inj e).symm⟩
  · cases e
theorem sp_wL {l : Launch} {X : SCR} {M : MT} {pc : Nat} {lv : List (Nat × Value)} {st : List Value} {h : HP} {sz bc bs : Nat} {Q : PST} {a : Nat} {i : Int32} {x : Int64} {h' : HP} (d : decode (mB M) pc = .ok (.lastore, 1)) (e : wL h a i x = some h') (kk : ∀ sz', SP l X M (pc + 1) lv st h' sz' bc bs Q) : SP l X M pc lv (.long x :: .int i :: .ref a :: st) h sz bc bs Q := by
  obtain ⟨n, f, h1, h2, h3⟩ := wL_spec e
  refine sp_last d h1 h2 (fun sz' => ?_)
  rw [← h3]
  exact kk sz'
theorem sp_aN {l : Launch} {X : SCR} {M : MT} {pc : Nat} {lv : List (Nat × Value)} {st : List Value} {h : HP} {sz bc bs : Nat} {Q : PST} {a : Nat} {x : Int32} (d : decode (mB M) pc = .ok (.arraylength, 1)) (e : aN h a = some x) (kk : SP l X M (pc + 1) lv (.int x :: st) h sz bc bs Q) : SP l X M pc lv (.ref a :: st) h sz bc bs Q := by
  unfold aN at e
  split at e
  · split at e
    · rename_i k y hh hk
      cases e
      exact sp_alen d hk hh kk
    · cases e
  · cases e
theorem sp_cI {l : Launch} {X : SCR} {M : MT} {pc : Nat} {lv : List (Nat × Value)} {st : List Value} {h : HP} {sz bc bs : Nat} {Q : PST} {idx a0 a : Nat} {sp dp n : Int32} {h' : HP} (hw : Cond.methodLink (mN M).cls idx arraycopyName ∈ BIG) (hw2 : Cond.native arraycopyName ∈ BIG) (hw3 : Cond.static arraycopyName ∈ BIG) (hw4 : Cond.initialized "java/lang/System" ∈ BIG) (d : decode (mB M) pc = .ok (.invokestatic idx, 3)) (hfr : 1 ≤ (mRm M).frames) (hlo : (st.map fun v => v.category).sum + (nativeFrameWords "java/lang/System" "arraycopy" 5 + 11) ≤ (mRm M).locals) (e : cI h a0 sp a dp n = some h') (kk : ∀ sz', SP l X M (pc + 3) lv st h' sz' bc bs Q) : SP l X M pc lv (.int n :: .int dp :: .ref a :: .int sp :: .ref a0 :: st) h sz bc bs Q := by
  unfold cI at e
  split at e
  · split at e
    · split at e
      · cases e
      · rename_i y1 n0 f h1 y2 n1 g h2 hc
        simp only [not_or, Classical.not_not] at hc
        obtain ⟨c1, c2, c3, c4, c5⟩ := hc
        refine sp_copyi hw hw2 hw3 hw4 d h1 h2 c1 c2 c3 c4 c5 hfr hlo (fun sz' => ?_)
        rw [Option.some.inj e]
        exact kk sz'
    · cases e
  · cases e
theorem sp_iretZ {l : Launch} {X : SCR} {M : MT} {pc : Nat} {lv : List (Nat × Value)} {h : HP} {sz bc bs : Nat} {Q : PST} {v r : Int32} (d : decode (mB M) pc = .ok (.ireturn, 1)) (hr : mRt M = some .boolean) (e : bz v = some r) (hq : Q (.inl (some (.int r))) h sz) : SP l X M pc lv [.int v] h sz bc bs Q := by
  obtain ⟨b1, b2, b3⟩ := bz_spec e
  subst b1
  exact sp_ireturn d hr b2 hq
theorem sp_sub {l : Launch} {X : SCR} {M : MT} {pc : Nat} {lv : List (Nat × Value)} {st : List Value} {h : HP} {sz bc bs : Nat} {Q : PST} {lv' : List (Nat × Value)} (ks : List Nat) (hk : lv_pick lv ks = lv') (kk : SP l X M pc lv' st h sz bc bs Q) : SP l X M pc lv st h sz bc bs Q :=
  fun p e s m args below meth c D cA A H locs cells slots ls hs C hh hP hD hS hz hl hc hs2 => kk p e s m args below meth c D cA A H locs cells slots ls hs C hh hP hD hS hz (lv_sub hl ks hk) hc hs2
/-- Java's rests, shifts, the greater and the lesser one -/
def jrem (x y : Int32) : Int32 := x - x / y * y
def jlrem (x y : Int64) : Int64 := x - x / y * y
def jlushr (x : Int64) (y : Int32) : Int64 := (x.toUInt64 >>> (y.toInt64.toUInt64 &&& Int64.toUInt64 63)).toInt64
def jlshl (x : Int64) (y : Int32) : Int64 := x <<< (y.toInt64 &&& 63)
def jmax (x y : Int32) : Int32 := if x < y then y else x
def jmin (x y : Int32) : Int32 := if y < x then y else x
theorem sp_iremJ {l : Launch} {X : SCR} {M : MT} {pc : Nat} {lv : List (Nat × Value)} {st : List Value} {h : HP} {sz bc bs : Nat} {Q : PST} {x y : Int32} (d : decode (mB M) pc = .ok (.irem, 1)) (hne : ¬ y = 0) (kk : SP l X M (pc + 1) lv (.int (jrem x y) :: st) h sz bc bs Q) : SP l X M pc lv (.int y :: .int x :: st) h sz bc bs Q := sp_irem d hne kk
theorem sp_lremJ {l : Launch} {X : SCR} {M : MT} {pc : Nat} {lv : List (Nat × Value)} {st : List Value} {h : HP} {sz bc bs : Nat} {Q : PST} {x y : Int64} (d : decode (mB M) pc = .ok (.lrem, 1)) (hne : ¬ y = 0) (kk : SP l X M (pc + 1) lv (.long (jlrem x y) :: st) h sz bc bs Q) : SP l X M pc lv (.long y :: .long x :: st) h sz bc bs Q := sp_lrem d hne kk
theorem sp_lushrJ {l : Launch} {X : SCR} {M : MT} {pc : Nat} {lv : List (Nat × Value)} {st : List Value} {h : HP} {sz bc bs : Nat} {Q : PST} {x : Int64} {y : Int32} (d : decode (mB M) pc = .ok (.lushr, 1)) (kk : SP l X M (pc + 1) lv (.long (jlushr x y) :: st) h sz bc bs Q) : SP l X M pc lv (.int y :: .long x :: st) h sz bc bs Q := sp_lushr d kk
theorem sp_lshlJ {l : Launch} {X : SCR} {M : MT} {pc : Nat} {lv : List (Nat × Value)} {st : List Value} {h : HP} {sz bc bs : Nat} {Q : PST} {x : Int64} {y : Int32} (d : decode (mB M) pc = .ok (.lshl, 1)) (kk : SP l X M (pc + 1) lv (.long (jlshl x y) :: st) h sz bc bs Q) : SP l X M pc lv (.int y :: .long x :: st) h sz bc bs Q := sp_lshl d kk
/-- switches -/
theorem tbl_out {x : Int32} {lo hi : Int} (h : ∀ i : Int, lo ≤ i → i ≤ hi → x.toInt ≠ i) : x.toInt < lo ∨ hi < x.toInt := by
  rcases Int.lt_or_le x.toInt lo with z | z
  · exact Or.inl z
  · rcases Int.lt_or_le hi x.toInt with y | y
    · exact Or.inr y
    · exact absurd rfl (h _ z y)
/-- what is made and seen no more -/
def hdel (h : HP) (a : Nat) : HP := fun b => if b = a then none else h b
theorem sp_drop {l : Launch} {X : SCR} {M : MT} {pc : Nat} {lv : List (Nat × Value)} {st : List Value} {h : HP} {sz bc bs : Nat} {Q : PST} (q : Nat) (kk : SP l X M pc lv st (hdel h q) sz bc bs Q) : SP l X M pc lv st h sz bc bs Q := by
  intro p e s m args below meth c D cA A H locs cells slots ls hs C hh hP hD hS hz hl hc hs2
  have hnd := hnd_of hD
  have hsub : ∀ (k : Nat) (x : Nat × CE), (hs.filter (fun z => z.1 != q))[k]? = some x → ∃ j : Nat, hs[j]? = some x ∧ x.1 ≠ q := by
    intro k x hk
    obtain ⟨hm, hq⟩ := List.mem_filter.mp (List.mem_of_getElem? hk)
    obtain ⟨j, hj⟩ := List.getElem?_of_mem hm
    exact ⟨j, hj, by simpa using hq⟩
  have hpw : hs.Pairwise (fun x y => x.1 ≠ y.1) := by
    rw [List.pairwise_iff_getElem]
    intro i j hi hj hij he
    have := hnd i j _ _ (List.getElem?_eq_getElem hi) (List.getElem?_eq_getElem hj) he
    omega
  have hpf : (hs.filter (fun z => z.1 != q)).Pairwise (fun x y => x.1 ≠ y.1) := hpw.filter _
  have hnd2 : ∀ (i j : Nat) (x y : Nat × CE), (hs.filter (fun z => z.1 != q))[i]? = some x → (hs.filter (fun z => z.1 != q))[j]? = some y → x.1 = y.1 → i = j := by
    intro i j x y hi hj hxy
    rw [List.pairwise_iff_getElem] at hpf
    obtain ⟨li, ei⟩ := List.getElem?_eq_some_iff.mp hi
    obtain ⟨lj, ej⟩ := List.getElem?_eq_some_iff.mp hj
    rcases Nat.lt_trichotomy i j with z | z | z
    · exact absurd (by rw [ei, ej]; exact hxy) (hpf i j li lj z)
    · exact z
    · exact absurd (by rw [ei, ej]; exact hxy.symm) (hpf j i lj li z)
  refine kk p e s m args below meth c D cA A H locs cells slots ls (hs.filter (fun z => z.1 != q)) C ?_ ?_ ?_ hS hz hl hc hs2
  · funext b
    unfold hdel
    by_cases hb : b = q
    · rw [if_pos hb]
      refine (hget_none fun k x hk hx => ?_).symm
      obtain ⟨j, hj, hne⟩ := hsub k x hk
      exact hne (hx.trans hb)
    · rw [if_neg hb, hh]
      cases hg : hget hs b with
      | none =>
        refine (hget_none fun k x hk hx => ?_).symm
        obtain ⟨j, hj, hne⟩ := hsub k x hk
        have h9 := hget_of hnd (k := j) (a := x.1) (e := x.2) hj
        rw [hx, hg] at h9
        cases h9
      | some e2 =>
        obtain ⟨j, hj⟩ := hget_at hg
        have hm : (b, e2) ∈ hs.filter (fun z => z.1 != q) := List.mem_filter.mpr ⟨List.mem_of_getElem? hj, by simpa using hb⟩
        obtain ⟨k, hk⟩ := List.getElem?_of_mem hm
        exact (hget_of hnd2 hk).symm
  · intro k x hk
    obtain ⟨x', hk', rfl⟩ := cvS_at' hk
    obtain ⟨j, hj, -⟩ := hsub k x' hk'
    exact hP j _ (cvS_at hj)
  · refine ⟨fun i j x y hi hj hxy => ?_, fun k x hk => ?_⟩
    · obtain ⟨x', hi', rfl⟩ := cvS_at' hi
      obtain ⟨y', hj', rfl⟩ := cvS_at' hj
      exact hnd2 i j x' y' hi' hj' hxy
    · obtain ⟨x', hk', rfl⟩ := cvS_at' hk
      obtain ⟨j, hj, -⟩ := hsub k x' hk'
      exact hD.2 j _ (cvS_at hj)

theorem sp_mmaxJ {l : Launch} {X : SCR} {M : MT} {pc : Nat} {lv : List (Nat × Value)} {st : List Value} {h : HP} {sz bc bs : Nat} {Q : PST} {idx : Nat} {x y : Int32} (hw : Cond.methodLink (mN M).cls idx Lib.Math.max.name ∈ BIG) (hw2 : Cond.static Lib.Math.max.name ∈ BIG) (hw3 : Cond.initialized "java/lang/Math" ∈ BIG) (hw4 : Cond.code Lib.Math.max.name Lib.Math.max.code 2 (some .int) ∈ BIG) (d : decode (mB M) pc = .ok (.invokestatic idx, 3)) (hfr : 1 ≤ (mRm M).frames) (hlo : (st.map fun v => v.category).sum + 13 ≤ (mRm M).locals) (kk : SP l X M (pc + 3) lv (.int (jmax x y) :: st) h sz bc bs Q) : SP l X M pc lv (.int y :: .int x :: st) h sz bc bs Q := sp_mmax hw hw2 hw3 hw4 d hfr hlo kk
theorem sp_mminJ {l : Launch} {X : SCR} {M : MT} {pc : Nat} {lv : List (Nat × Value)} {st : List Value} {h : HP} {sz bc bs : Nat} {Q : PST} {idx : Nat} {x y : Int32} (hw : Cond.methodLink (mN M).cls idx Lib.Math.min.name ∈ BIG) (hw2 : Cond.static Lib.Math.min.name ∈ BIG) (hw3 : Cond.initialized "java/lang/Math" ∈ BIG) (hw4 : Cond.code Lib.Math.min.name Lib.Math.min.code 2 (some .int) ∈ BIG) (d : decode (mB M) pc = .ok (.invokestatic idx, 3)) (hfr : 1 ≤ (mRm M).frames) (hlo : (st.map fun v => v.category).sum + 13 ≤ (mRm M).locals) (kk : SP l X M (pc + 3) lv (.int (jmin x y) :: st) h sz bc bs Q) : SP l X M pc lv (.int y :: .int x :: st) h sz bc bs Q := sp_mmin hw hw2 hw3 hw4 d hfr hlo kk
/-! what a program makes, and out of which room -/
def tk (a n : Nat) : Option Nat := if n ≤ a then some (a - n) else none
theorem tk_spec {a n b : Nat} (e : tk a n = some b) : a = b + n := by
  unfold tk at e
  split at e
  · have := Option.some.inj e
    omega
  · cases e
def alN (bc bs : Nat) (n : Int32) : Option (Nat × Nat) := if n < 0 ∨ ¬ (n.toNatClampNeg * 8 ≤ 536870912) then none else (tk bc 1).bind fun a => (tk bs n.toNatClampNeg).bind fun b => some (a, b)
theorem alN_spec {bc bs : Nat} {n : Int32} {b : Nat × Nat} (e : alN bc bs n = some b) : ¬ n < 0 ∧ n.toNatClampNeg * 8 ≤ 536870912 ∧ bc = b.1 + 1 ∧ bs = b.2 + n.toNatClampNeg := by
  unfold alN at e
  split at e
  · cases e
  · rename_i hc
    simp only [not_or, Classical.not_not] at hc
    obtain ⟨x, e1, e⟩ := ob e
    obtain ⟨y, e2, e⟩ := ob e
    obtain rfl := Option.some.inj e
    exact ⟨hc.1, hc.2, tk_spec e1, tk_spec e2⟩
def nwO (h : HP) (q ci : Nat) (fs : List Value) : Option HP := some (hup h q (.inr (ci, fs)))
def nwI (h : HP) (q : Nat) (n : Int32) : Option HP := some (hup h q (.inl (0, n.toNatClampNeg, .inl (fun _ => 0))))
def nwZ (h : HP) (q : Nat) (n : Int32) : Option HP := some (hup h q (.inl (1, n.toNatClampNeg, .inl (fun _ => 0))))
def nwJ (h : HP) (q : Nat) (n : Int32) : Option HP := some (hup h q (.inl (2, n.toNatClampNeg, .inr (.inl (fun _ => 0)))))
def nwR (kd : Nat) (h : HP) (q : Nat) (n : Int32) : Option HP := some (hup h q (.inl (kd, n.toNatClampNeg, .inr (.inr (.inr (.inr (fun _ => none)))))))
def wR (kd ci : Nat) (h : HP) (a : Nat) (i : Int32) (y : Nat) : Option HP := match h a with
  | some (.inl (k, n, .inr (.inr (.inr (.inr f))))) => if k = kd then (if i < 0 ∨ n ≤ i.toNatClampNeg then none else (kO ci h y).bind fun _ => some (hup h a (.inl (kd, n, .inr (.inr (.inr (.inr (va_up f i.toNatClampNeg (some y))))))))) else none
  | _ => none
theorem wR_spec {kd ci : Nat} {h h' : HP} {a : Nat} {i : Int32} {y : Nat} (e : wR kd ci h a i y = some h') : ∃ n f vs, h a = some (.inl (kd, n, .inr (.inr (.inr (.inr f))))) ∧ vp_in i n ∧ h y = some (.inr (ci, vs)) ∧ h' = hup h a (.inl (kd, n, .inr (.inr (.inr (.inr (va_up f i.toNatClampNeg (some y))))))) := by
  unfold wR at e
  split at e
  · split at e
    · rename_i k n f hh hk
      subst hk
      split at e
      · cases e
      · rename_i hc
        obtain ⟨u, eu, e⟩ := ob e
        obtain ⟨vs, hv⟩ := kO_spec eu
        exact ⟨_, _, _, hh, hc, hv, (Option.some.inj e).symm⟩
    · cases e
  · cases e
theorem sp_wR3 {l : Launch} {X : SCR} {M : MT} {pc : Nat} {lv : List (Nat × Value)} {st : List Value} {h h' : HP} {sz bc bs : Nat} {Q : PST} {a y : Nat} {i : Int32} (d : decode (mB M) pc = .ok (.aastore, 1)) (e : wR 3 2 h a i y = some h') (kk : SP l X M (pc + 1) lv st h' sz bc bs Q) : SP l X M pc lv (.ref y :: .int i :: .ref a :: st) h sz bc bs Q := by
  obtain ⟨n, f, vs, h1, h2, h3, h4⟩ := wR_spec e
  refine sp_aast3 d h1 h2 h3 ?_
  rw [← h4]
  exact kk
theorem sp_wR4 {l : Launch} {X : SCR} {M : MT} {pc : Nat} {lv : List (Nat × Value)} {st : List Value} {h h' : HP} {sz bc bs : Nat} {Q : PST} {a y : Nat} {i : Int32} (d : decode (mB M) pc = .ok (.aastore, 1)) (e : wR 4 3 h a i y = some h') (kk : SP l X M (pc + 1) lv st h' sz bc bs Q) : SP l X M pc lv (.ref y :: .int i :: .ref a :: st) h sz bc bs Q := by
  obtain ⟨n, f, vs, h1, h2, h3, h4⟩ := wR_spec e
  refine sp_aast4 d h1 h2 h3 ?_
  rw [← h4]
  exact kk
theorem sp_fresh {l : Launch} {X : SCR} {M : MT} {pc : Nat} {lv : List (Nat × Value)} {st : List Value} {h : HP} {sz bc bs : Nat} {Q : PST} (kk : (∀ a e, h a = some e → a < sz) → SP l X M pc lv st h sz bc bs Q) : SP l X M pc lv st h sz bc bs Q := by
  intro p e s m args below meth c D cA A H locs cells slots ls hs C hh hP hD hS hz hl hc hs2
  exact kk (fun a e ha => by rw [← hz]; exact hget_lt hP (by rw [← hh]; exact ha)) p e s m args below meth c D cA A H locs cells slots ls hs C hh hP hD hS hz hl hc hs2
theorem big_at {i : Nat} {w : Cond} (h : lw_tbl[i]? = some w) (g : goodWord w = true) : w ∈ BIG := big_in (List.mem_of_getElem? h) g
theorem big_sub {L : List Cond} (h : L.all (fun w => decide (w ∈ lw_tbl) && goodWord w) = true) : ∀ w ∈ L, w ∈ BIG := fun w hw => by
  have h1 := List.all_eq_true.mp h w hw
  simp only [Bool.and_eq_true, decide_eq_true_eq] at h1
  exact big_in h1.1 h1.2
def FU : Nat := 4096
end
section
theorem tb0 {w : Cond} (h : w ∈ k2_sels lw_privs) : w ∈ lw_tbl := List.mem_append_left _ h
theorem tb1 {w : Cond} (h : w ∈ tables_1_1) : w ∈ lw_tbl := List.mem_append_right _ (show w ∈ tables_1 from List.mem_append_left _ h)
theorem tb2 {w : Cond} (h : w ∈ tables_1_2) : w ∈ lw_tbl := List.mem_append_right _ (show w ∈ tables_1 from List.mem_append_right _ (List.mem_append_left _ h))
theorem tb3 {w : Cond} (h : w ∈ tables_1_3) : w ∈ lw_tbl := List.mem_append_right _ (show w ∈ tables_1 from List.mem_append_right _ (List.mem_append_right _ (List.mem_append_left _ h)))
theorem tb4 {w : Cond} (h : w ∈ tables_1_4) : w ∈ lw_tbl := List.mem_append_right _ (show w ∈ tables_1 from List.mem_append_right _ (List.mem_append_right _ (List.mem_append_right _ (List.mem_append_left _ h))))
theorem tb5 {w : Cond} (h : w ∈ tables_1_5) : w ∈ lw_tbl := List.mem_append_right _ (show w ∈ tables_1 from List.mem_append_right _ (List.mem_append_right _ (List.mem_append_right _ (List.mem_append_right _ (List.mem_append_left _ h)))))
theorem tb6 {w : Cond} (h : w ∈ tables_1_6) : w ∈ lw_tbl := List.mem_append_right _ (show w ∈ tables_1 from List.mem_append_right _ (List.mem_append_right _ (List.mem_append_right _ (List.mem_append_right _ (List.mem_append_right _ (h))))))
theorem bk_0 : Cond.selects RX4 yX4_digitFits yX4_digitFits ∈ BIG := big_in (tb0 (List.mem_of_getElem? (i := 0) rfl)) rfl
theorem bk_1 : Cond.selects RX0 yX0_dropHidden yX0_dropHidden ∈ BIG := big_in (tb0 (List.mem_of_getElem? (i := 1) rfl)) rfl
theorem bk_2 : Cond.selects RX0 yX0_dropNeedless yX0_dropNeedless ∈ BIG := big_in (tb0 (List.mem_of_getElem? (i := 2) rfl)) rfl
theorem bk_3 : Cond.selects RX0 yX0_addRows yX0_addRows ∈ BIG := big_in (tb0 (List.mem_of_getElem? (i := 3) rfl)) rfl
theorem bk_5 : Cond.selects RX7 yX7_doTextCommand yX7_doTextCommand ∈ BIG := big_in (tb0 (List.mem_of_getElem? (i := 5) rfl)) rfl
theorem bk_6 : Cond.selects RX7 yX7_seenNow yX7_seenNow ∈ BIG := big_in (tb0 (List.mem_of_getElem? (i := 6) rfl)) rfl
theorem bk_7 : Cond.selects RX7 yX7_doGroup yX7_doGroup ∈ BIG := big_in (tb0 (List.mem_of_getElem? (i := 7) rfl)) rfl
theorem bk_8 : Cond.selects RX7 yX7_doTurn yX7_doTurn ∈ BIG := big_in (tb0 (List.mem_of_getElem? (i := 8) rfl)) rfl
theorem bk_9 : Cond.selects RX8 yX8_holds yX8_holds ∈ BIG := big_in (tb0 (List.mem_of_getElem? (i := 9) rfl)) rfl
theorem bk_10 : Cond.selects RX8 yX8_go yX8_go ∈ BIG := big_in (tb0 (List.mem_of_getElem? (i := 10) rfl)) rfl
theorem bk_11 : Cond.selects RX8 yX8_sign yX8_sign ∈ BIG := big_in (tb0 (List.mem_of_getElem? (i := 11) rfl)) rfl
theorem bk_12 : Cond.selects RX8 yX8_command yX8_command ∈ BIG := big_in (tb0 (List.mem_of_getElem? (i := 12) rfl)) rfl
theorem bk_13 : Cond.selects RX8 yX8_key yX8_key ∈ BIG := big_in (tb0 (List.mem_of_getElem? (i := 13) rfl)) rfl
theorem bk_14 : Cond.selects RX8 yX8_does yX8_does ∈ BIG := big_in (tb0 (List.mem_of_getElem? (i := 14) rfl)) rfl
theorem bk_15 : Cond.selects RX8 yX8_putFault yX8_putFault ∈ BIG := big_in (tb0 (List.mem_of_getElem? (i := 15) rfl)) rfl
theorem bk_16 : Cond.selects RX8 yX8_all yX8_all ∈ BIG := big_in (tb0 (List.mem_of_getElem? (i := 16) rfl)) rfl
theorem bk_17 : Cond.selects RX8 yX8_begin yX8_begin ∈ BIG := big_in (tb0 (List.mem_of_getElem? (i := 17) rfl)) rfl
theorem bk_18 : Cond.selects RX8 yX8_buryFault yX8_buryFault ∈ BIG := big_in (tb0 (List.mem_of_getElem? (i := 18) rfl)) rfl
theorem bk_19 : Cond.selects RX8 yX8_flushFault yX8_flushFault ∈ BIG := big_in (tb0 (List.mem_of_getElem? (i := 19) rfl)) rfl
theorem bk_20 : Cond.selects RX8 yX8_clean yX8_clean ∈ BIG := big_in (tb0 (List.mem_of_getElem? (i := 20) rfl)) rfl
theorem bk_21 : Cond.selects RX8 yX8_isEntry yX8_isEntry ∈ BIG := big_in (tb0 (List.mem_of_getElem? (i := 21) rfl)) rfl
theorem bk_22 : Cond.selects RX8 yX8_isCovered yX8_isCovered ∈ BIG := big_in (tb0 (List.mem_of_getElem? (i := 22) rfl)) rfl
theorem bk_23 : Cond.selects RX8 yX8_concerns yX8_concerns ∈ BIG := big_in (tb0 (List.mem_of_getElem? (i := 23) rfl)) rfl
theorem bk_24 : Cond.selects RX8 yX8_areParted yX8_areParted ∈ BIG := big_in (tb0 (List.mem_of_getElem? (i := 24) rfl)) rfl
theorem bk_25 : Cond.selects RX8 yX8_leave yX8_leave ∈ BIG := big_in (tb0 (List.mem_of_getElem? (i := 25) rfl)) rfl
theorem bk_26 : Cond.selects RX8 yX8_cut yX8_cut ∈ BIG := big_in (tb0 (List.mem_of_getElem? (i := 26) rfl)) rfl
theorem bk_27 : Cond.selects RX8 yX8_hasOlderEntry yX8_hasOlderEntry ∈ BIG := big_in (tb0 (List.mem_of_getElem? (i := 27) rfl)) rfl
theorem bk_28 : Cond.selects RX8 yX8_isRoomFor yX8_isRoomFor ∈ BIG := big_in (tb0 (List.mem_of_getElem? (i := 28) rfl)) rfl
theorem bk_29 : Cond.selects RX8 yX8_mergeFault yX8_mergeFault ∈ BIG := big_in (tb0 (List.mem_of_getElem? (i := 29) rfl)) rfl
theorem bk_30 : Cond.selects RX8 yX8_isRun yX8_isRun ∈ BIG := big_in (tb0 (List.mem_of_getElem? (i := 30) rfl)) rfl
theorem bk_31 : Cond.selects RX8 yX8_isEye yX8_isEye ∈ BIG := big_in (tb0 (List.mem_of_getElem? (i := 31) rfl)) rfl
theorem bk_32 : Cond.selects RX8 yX8_writes yX8_writes ∈ BIG := big_in (tb0 (List.mem_of_getElem? (i := 32) rfl)) rfl
theorem bk_33 : Cond.selects RX8 yX8_buries yX8_buries ∈ BIG := big_in (tb0 (List.mem_of_getElem? (i := 33) rfl)) rfl
theorem bk_34 : Cond.selects RX8 yX8_countSeen yX8_countSeen ∈ BIG := big_in (tb0 (List.mem_of_getElem? (i := 34) rfl)) rfl
theorem bk_35 : Cond.selects RX8 yX8_seen yX8_seen ∈ BIG := big_in (tb0 (List.mem_of_getElem? (i := 35) rfl)) rfl
theorem bk_36 : Cond.selects RX8 yX8_upTo yX8_upTo ∈ BIG := big_in (tb0 (List.mem_of_getElem? (i := 36) rfl)) rfl
theorem bk_37 : Cond.selects RX8 yX8_newest yX8_newest ∈ BIG := big_in (tb0 (List.mem_of_getElem? (i := 37) rfl)) rfl
theorem bk_38 : Cond.selects RX8 yX8_flushes yX8_flushes ∈ BIG := big_in (tb0 (List.mem_of_getElem? (i := 38) rfl)) rfl
theorem bk_39 : Cond.selects RX8 yX8_replace yX8_replace ∈ BIG := big_in (tb0 (List.mem_of_getElem? (i := 39) rfl)) rfl
theorem bk_40 : Cond.selects RX8 yX8_merges yX8_merges ∈ BIG := big_in (tb0 (List.mem_of_getElem? (i := 40) rfl)) rfl
theorem bk_41 : Cond.selects RX8 yX8_opens yX8_opens ∈ BIG := big_in (tb0 (List.mem_of_getElem? (i := 41) rfl)) rfl
theorem bk_42 : Cond.selects RX8 yX8_closes yX8_closes ∈ BIG := big_in (tb0 (List.mem_of_getElem? (i := 42) rfl)) rfl
theorem bk_43 : Cond.selects RX8 yX8_told yX8_told ∈ BIG := big_in (tb0 (List.mem_of_getElem? (i := 43) rfl)) rfl
theorem bk_44 : Cond.selects RX8 yX8_kinds yX8_kinds ∈ BIG := big_in (tb0 (List.mem_of_getElem? (i := 44) rfl)) rfl
theorem bk_45 : Cond.selects RX8 yX8_sumSeen yX8_sumSeen ∈ BIG := big_in (tb0 (List.mem_of_getElem? (i := 45) rfl)) rfl
theorem bk_46 : Cond.selects RX8 yX8_isView yX8_isView ∈ BIG := big_in (tb0 (List.mem_of_getElem? (i := 46) rfl)) rfl
theorem bk_47 : Cond.selects RX8 yX8_ofRun yX8_ofRun ∈ BIG := big_in (tb0 (List.mem_of_getElem? (i := 47) rfl)) rfl
theorem bk_48 : Cond.selects RX8 yX8_manyIn yX8_manyIn ∈ BIG := big_in (tb0 (List.mem_of_getElem? (i := 48) rfl)) rfl
theorem bk_49 : Cond.selects RX8 yX8_keysOf yX8_keysOf ∈ BIG := big_in (tb0 (List.mem_of_getElem? (i := 49) rfl)) rfl
theorem bk_50 : Cond.selects RX8 yX8_remember yX8_remember ∈ BIG := big_in (tb0 (List.mem_of_getElem? (i := 50) rfl)) rfl
theorem bk_51 : Cond.selects RX8 yX8_lookedAt yX8_lookedAt ∈ BIG := big_in (tb0 (List.mem_of_getElem? (i := 51) rfl)) rfl
theorem bk_52 : Cond.selects RX8 yX8_isIn yX8_isIn ∈ BIG := big_in (tb0 (List.mem_of_getElem? (i := 52) rfl)) rfl
theorem bk_53 : Cond.selects RX8 yX8_nextSeen yX8_nextSeen ∈ BIG := big_in (tb0 (List.mem_of_getElem? (i := 53) rfl)) rfl
theorem bk_54 : Cond.selects RX8 yX8_newestGrave yX8_newestGrave ∈ BIG := big_in (tb0 (List.mem_of_getElem? (i := 54) rfl)) rfl
theorem bk_55 : Cond.selects RX8 yX8_savedBy yX8_savedBy ∈ BIG := big_in (tb0 (List.mem_of_getElem? (i := 55) rfl)) rfl
theorem bk_56 : Cond.selects RX8 yX8_ran yX8_ran ∈ BIG := big_in (tb0 (List.mem_of_getElem? (i := 56) rfl)) rfl
theorem bk_57 : Cond.selects RX8 yX8_putAside yX8_putAside ∈ BIG := big_in (tb0 (List.mem_of_getElem? (i := 57) rfl)) rfl
theorem bk_58 : Cond.selects RX8 yX8_doesWell yX8_doesWell ∈ BIG := big_in (tb0 (List.mem_of_getElem? (i := 58) rfl)) rfl
theorem bk_59 : Cond.selects RX8 yX8_putBack yX8_putBack ∈ BIG := big_in (tb0 (List.mem_of_getElem? (i := 59) rfl)) rfl
theorem bk_60 : Cond.selects RX8 yX8_simulated yX8_simulated ∈ BIG := big_in (tb0 (List.mem_of_getElem? (i := 60) rfl)) rfl
theorem bk_61 : Cond.selects RX8 yX8_turn yX8_turn ∈ BIG := big_in (tb0 (List.mem_of_getElem? (i := 61) rfl)) rfl
theorem bk_62 : Cond.initialized RL ∈ BIG := big_in (tb1 (List.mem_of_getElem? (i := 0) rfl)) rfl
theorem bk_63 : Cond.initialized RX7 ∈ BIG := big_in (tb1 (List.mem_of_getElem? (i := 1) rfl)) rfl
theorem bk_64 : Cond.initialized RX0 ∈ BIG := big_in (tb1 (List.mem_of_getElem? (i := 2) rfl)) rfl
theorem bk_65 : Cond.initialized RX6 ∈ BIG := big_in (tb1 (List.mem_of_getElem? (i := 3) rfl)) rfl
theorem bk_66 : Cond.initialized RJ9 ∈ BIG := big_in (tb1 (List.mem_of_getElem? (i := 4) rfl)) rfl
theorem bk_67 : Cond.initialized RX2 ∈ BIG := big_in (tb1 (List.mem_of_getElem? (i := 5) rfl)) rfl
theorem bk_68 : Cond.initialized RX4 ∈ BIG := big_in (tb1 (List.mem_of_getElem? (i := 6) rfl)) rfl
theorem bk_69 : Cond.initialized RX3 ∈ BIG := big_in (tb1 (List.mem_of_getElem? (i := 7) rfl)) rfl
theorem bk_70 : Cond.initialized RX1 ∈ BIG := big_in (tb1 (List.mem_of_getElem? (i := 8) rfl)) rfl
theorem bk_71 : Cond.initialized RX5 ∈ BIG := big_in (tb1 (List.mem_of_getElem? (i := 9) rfl)) rfl
theorem bk_72 : Cond.initialized RX8 ∈ BIG := big_in (tb1 (List.mem_of_getElem? (i := 10) rfl)) rfl
theorem bk_76 : Cond.initialized "java/lang/IllegalArgumentException" ∈ BIG := big_in (tb1 (List.mem_of_getElem? (i := 14) rfl)) rfl
theorem bk_77 : Cond.initialized "java/lang/IllegalStateException" ∈ BIG := big_in (tb1 (List.mem_of_getElem? (i := 15) rfl)) rfl
theorem bk_78 : Cond.initialized RJ10 ∈ BIG := big_in (tb1 (List.mem_of_getElem? (i := 16) rfl)) rfl
theorem bk_79 : Cond.initialized RJ7 ∈ BIG := big_in (tb1 (List.mem_of_getElem? (i := 17) rfl)) rfl
theorem bk_80 : Cond.initialized "java/lang/IndexOutOfBoundsException" ∈ BIG := big_in (tb1 (List.mem_of_getElem? (i := 18) rfl)) rfl
theorem bk_81 : Cond.initialized RJ13 ∈ BIG := big_in (tb1 (List.mem_of_getElem? (i := 19) rfl)) rfl
theorem bk_82 : Cond.classLink RL 8 RX7 ∈ BIG := big_in (tb1 (List.mem_of_getElem? (i := 20) rfl)) rfl
theorem bk_83 : Cond.instantiable RX7 7 ∈ BIG := big_in (tb1 (List.mem_of_getElem? (i := 21) rfl)) rfl
theorem bk_84 : Cond.methodLink RL 90 yX7_init ∈ BIG := big_in (tb1 (List.mem_of_getElem? (i := 22) rfl)) rfl
theorem bk_85 : Cond.instanceMethod yX7_init ∈ BIG := big_in (tb1 (List.mem_of_getElem? (i := 23) rfl)) rfl
theorem bk_86 : Cond.code yX7_init cX7_init 3 none ∈ BIG := big_in (tb1 (List.mem_of_getElem? (i := 24) rfl)) rfl
theorem bk_87 : Cond.methodLink RX7 3 objectInit ∈ BIG := big_in (tb1 (List.mem_of_getElem? (i := 25) rfl)) rfl
theorem bk_88 : Cond.instanceMethod objectInit ∈ BIG := big_in (tb1 (List.mem_of_getElem? (i := 26) rfl)) rfl
theorem bk_89 : Cond.code objectInit ⟨#[0xb1]⟩ 1 none ∈ BIG := big_in (tb1 (List.mem_of_getElem? (i := 27) rfl)) rfl
theorem bk_90 : Cond.classLink RX7 9 RX0 ∈ BIG := big_in (tb1 (List.mem_of_getElem? (i := 28) rfl)) rfl
theorem bk_91 : Cond.instantiable RX0 5 ∈ BIG := big_in (tb1 (List.mem_of_getElem? (i := 29) rfl)) rfl
theorem bk_92 : Cond.methodLink RX7 11 yX0_init ∈ BIG := big_in (tb1 (List.mem_of_getElem? (i := 30) rfl)) rfl
theorem bk_93 : Cond.instanceMethod yX0_init ∈ BIG := big_in (tb1 (List.mem_of_getElem? (i := 31) rfl)) rfl
theorem bk_94 : Cond.code yX0_init cX0_init 2 none ∈ BIG := big_in (tb1 (List.mem_of_getElem? (i := 32) rfl)) rfl
theorem bk_95 : Cond.methodLink RX0 3 objectInit ∈ BIG := big_in (tb1 (List.mem_of_getElem? (i := 33) rfl)) rfl
theorem bk_96 : Cond.classLink RX0 9 RX6 ∈ BIG := big_in (tb1 (List.mem_of_getElem? (i := 34) rfl)) rfl
theorem bk_97 : Cond.instantiable RX6 5 ∈ BIG := big_in (tb1 (List.mem_of_getElem? (i := 35) rfl)) rfl
theorem bk_98 : Cond.methodLink RX0 11 yX6_init ∈ BIG := big_in (tb1 (List.mem_of_getElem? (i := 36) rfl)) rfl
theorem bk_99 : Cond.instanceMethod yX6_init ∈ BIG := big_in (tb1 (List.mem_of_getElem? (i := 37) rfl)) rfl
theorem bk_100 : Cond.code yX6_init cX6_init 3 none ∈ BIG := big_in (tb1 (List.mem_of_getElem? (i := 38) rfl)) rfl
theorem bk_101 : Cond.methodLink RX6 3 objectInit ∈ BIG := big_in (tb1 (List.mem_of_getElem? (i := 39) rfl)) rfl
theorem bk_102 : Cond.methodLink RX6 9 yJ9_max_7cf53 ∈ BIG := big_in (tb1 (List.mem_of_getElem? (i := 40) rfl)) rfl
theorem bk_103 : Cond.static yJ9_max_7cf53 ∈ BIG := big_in (tb1 (List.mem_of_getElem? (i := 41) rfl)) rfl
theorem bk_104 : Cond.code Lib.Math.max.name Lib.Math.max.code 2 (some .int) ∈ BIG := big_in (tb1 (List.mem_of_getElem? (i := 42) rfl)) rfl
theorem bk_105 : Cond.fieldLink RX6 15 RX6 "numbers" "[I" ∈ BIG := big_in (tb1 (List.mem_of_getElem? (i := 43) rfl)) rfl
theorem bk_106 : Cond.fieldLink RX6 21 RX6 "firsts" "[I" ∈ BIG := big_in (tb1 (List.mem_of_getElem? (i := 44) rfl)) rfl
theorem bk_107 : Cond.fieldLink RX6 24 RX6 "lasts" "[I" ∈ BIG := big_in (tb1 (List.mem_of_getElem? (i := 45) rfl)) rfl
theorem bk_108 : Cond.fieldLink RX6 27 RX6 "values" "[I" ∈ BIG := big_in (tb1 (List.mem_of_getElem? (i := 46) rfl)) rfl
theorem bk_109 : Cond.fieldLink RX6 30 RX6 "size" "I" ∈ BIG := big_in (tb1 (List.mem_of_getElem? (i := 47) rfl)) rfl
theorem bk_121 : Cond.arrayClass .int ∈ BIG := big_in (tb1 (List.mem_of_getElem? (i := 59) rfl)) rfl
theorem bk_122 : Cond.classLink RX0 20 RX2 ∈ BIG := big_in (tb1 (List.mem_of_getElem? (i := 60) rfl)) rfl
theorem bk_124 : Cond.instantiable RX2 2 ∈ BIG := big_in (tb1 (List.mem_of_getElem? (i := 62) rfl)) rfl
theorem bk_126 : Cond.instanceMethod yX2_init ∈ BIG := big_in (tb1 (List.mem_of_getElem? (i := 64) rfl)) rfl
theorem bk_127 : Cond.code yX2_init cX2_init 1 none ∈ BIG := big_in (tb1 (List.mem_of_getElem? (i := 65) rfl)) rfl
theorem bk_128 : Cond.methodLink RX2 3 objectInit ∈ BIG := big_in (tb1 (List.mem_of_getElem? (i := 66) rfl)) rfl
theorem bk_129 : Cond.fieldLink RX2 9 RX2 "low" "J" ∈ BIG := big_in (tb1 (List.mem_of_getElem? (i := 67) rfl)) rfl
theorem bk_130 : Cond.fieldLink RX2 15 RX2 "high" "J" ∈ BIG := big_in (tb1 (List.mem_of_getElem? (i := 68) rfl)) rfl
theorem bk_136 : Cond.fieldLink RX0 14 RX0 "result" "LRangeGraves$Writes;" ∈ BIG := big_in (tb1 (List.mem_of_getElem? (i := 74) rfl)) rfl
theorem bk_138 : Cond.fieldLink RX0 22 RX0 "left" "[LRangeGraves$Keys;" ∈ BIG := big_in (tb1 (List.mem_of_getElem? (i := 76) rfl)) rfl
theorem bk_139 : Cond.fieldLink RX0 27 RX0 "newerWrites" "LRangeGraves$Keys;" ∈ BIG := big_in (tb1 (List.mem_of_getElem? (i := 77) rfl)) rfl
theorem bk_140 : Cond.fieldLink RX0 31 RX0 "newerGraves" "LRangeGraves$Keys;" ∈ BIG := big_in (tb1 (List.mem_of_getElem? (i := 78) rfl)) rfl
theorem bk_141 : Cond.fieldLink RX0 34 RX0 "olderEntries" "LRangeGraves$Keys;" ∈ BIG := big_in (tb1 (List.mem_of_getElem? (i := 79) rfl)) rfl
theorem bk_153 : Cond.classLink RX7 12 RX4 ∈ BIG := big_in (tb1 (List.mem_of_getElem? (i := 91) rfl)) rfl
theorem bk_154 : Cond.instantiable RX4 2 ∈ BIG := big_in (tb1 (List.mem_of_getElem? (i := 92) rfl)) rfl
theorem bk_156 : Cond.instanceMethod yX4_init ∈ BIG := big_in (tb1 (List.mem_of_getElem? (i := 94) rfl)) rfl
theorem bk_157 : Cond.code yX4_init cX4_init 1 none ∈ BIG := big_in (tb1 (List.mem_of_getElem? (i := 95) rfl)) rfl
theorem bk_158 : Cond.methodLink RX4 3 objectInit ∈ BIG := big_in (tb1 (List.mem_of_getElem? (i := 96) rfl)) rfl
theorem bk_159 : Cond.fieldLink RX4 9 RX4 "signs" "[I" ∈ BIG := big_in (tb1 (List.mem_of_getElem? (i := 97) rfl)) rfl
theorem bk_160 : Cond.fieldLink RX4 15 RX4 "length" "I" ∈ BIG := big_in (tb1 (List.mem_of_getElem? (i := 98) rfl)) rfl
theorem bk_166 : Cond.classLink RX7 19 RX3 ∈ BIG := big_in (tb1 (List.mem_of_getElem? (i := 104) rfl)) rfl
theorem bk_167 : Cond.instantiable RX3 8 ∈ BIG := big_in (tb1 (List.mem_of_getElem? (i := 105) rfl)) rfl
theorem bk_168 : Cond.methodLink RX7 21 yX3_init ∈ BIG := big_in (tb1 (List.mem_of_getElem? (i := 106) rfl)) rfl
theorem bk_169 : Cond.instanceMethod yX3_init ∈ BIG := big_in (tb1 (List.mem_of_getElem? (i := 107) rfl)) rfl
theorem bk_170 : Cond.code yX3_init cX3_init 3 none ∈ BIG := big_in (tb1 (List.mem_of_getElem? (i := 108) rfl)) rfl
theorem bk_171 : Cond.methodLink RX3 3 objectInit ∈ BIG := big_in (tb1 (List.mem_of_getElem? (i := 109) rfl)) rfl
theorem bk_172 : Cond.classLink RX3 22 RX6 ∈ BIG := big_in (tb1 (List.mem_of_getElem? (i := 110) rfl)) rfl
theorem bk_173 : Cond.methodLink RX3 24 yX6_init ∈ BIG := big_in (tb1 (List.mem_of_getElem? (i := 111) rfl)) rfl
theorem bk_174 : Cond.fieldLink RX3 18 RX3 "cleaner" "LRangeGraves$Cleaner;" ∈ BIG := big_in (tb1 (List.mem_of_getElem? (i := 112) rfl)) rfl
theorem bk_175 : Cond.fieldLink RX3 27 RX3 "writes" "LRangeGraves$Writes;" ∈ BIG := big_in (tb1 (List.mem_of_getElem? (i := 113) rfl)) rfl
theorem bk_179 : Cond.fieldLink RX3 9 RX3 "ends" "[I" ∈ BIG := big_in (tb1 (List.mem_of_getElem? (i := 117) rfl)) rfl
theorem bk_180 : Cond.fieldLink RX3 15 RX3 "eyeNumbers" "[I" ∈ BIG := big_in (tb1 (List.mem_of_getElem? (i := 118) rfl)) rfl
theorem bk_181 : Cond.fieldLink RX3 34 RX3 "runs" "I" ∈ BIG := big_in (tb1 (List.mem_of_getElem? (i := 119) rfl)) rfl
theorem bk_182 : Cond.fieldLink RX3 38 RX3 "eyes" "I" ∈ BIG := big_in (tb1 (List.mem_of_getElem? (i := 120) rfl)) rfl
theorem bk_183 : Cond.fieldLink RX3 41 RX3 "latest" "I" ∈ BIG := big_in (tb1 (List.mem_of_getElem? (i := 121) rfl)) rfl
theorem bk_184 : Cond.fieldLink RX3 44 RX3 "fewer" "I" ∈ BIG := big_in (tb1 (List.mem_of_getElem? (i := 122) rfl)) rfl
theorem bk_202 : Cond.classLink RX7 31 RX1 ∈ BIG := big_in (tb1 (List.mem_of_getElem? (i := 140) rfl)) rfl
theorem bk_203 : Cond.instantiable RX1 3 ∈ BIG := big_in (tb1 (List.mem_of_getElem? (i := 141) rfl)) rfl
theorem bk_204 : Cond.methodLink RX7 33 yX1_init ∈ BIG := big_in (tb1 (List.mem_of_getElem? (i := 142) rfl)) rfl
theorem bk_205 : Cond.instanceMethod yX1_init ∈ BIG := big_in (tb1 (List.mem_of_getElem? (i := 143) rfl)) rfl
theorem bk_206 : Cond.code yX1_init cX1_init 3 none ∈ BIG := big_in (tb1 (List.mem_of_getElem? (i := 144) rfl)) rfl
theorem bk_207 : Cond.methodLink RX1 3 objectInit ∈ BIG := big_in (tb1 (List.mem_of_getElem? (i := 145) rfl)) rfl
theorem bk_208 : Cond.classLink RX1 9 RX3 ∈ BIG := big_in (tb1 (List.mem_of_getElem? (i := 146) rfl)) rfl
theorem bk_210 : Cond.methodLink RX1 17 yX3_init ∈ BIG := big_in (tb1 (List.mem_of_getElem? (i := 148) rfl)) rfl
theorem bk_211 : Cond.fieldLink RX1 11 RX1 "states" "[LRangeGraves$Store;" ∈ BIG := big_in (tb1 (List.mem_of_getElem? (i := 149) rfl)) rfl
theorem bk_212 : Cond.fieldLink RX1 24 RX1 "oldest" "I" ∈ BIG := big_in (tb1 (List.mem_of_getElem? (i := 150) rfl)) rfl
theorem bk_213 : Cond.fieldLink RX1 20 RX1 "size" "I" ∈ BIG := big_in (tb1 (List.mem_of_getElem? (i := 151) rfl)) rfl
theorem bk_221 : Cond.classLink RX7 48 RX5 ∈ BIG := big_in (tb1 (List.mem_of_getElem? (i := 159) rfl)) rfl
theorem bk_222 : Cond.instantiable RX5 1 ∈ BIG := big_in (tb1 (List.mem_of_getElem? (i := 160) rfl)) rfl
theorem bk_224 : Cond.instanceMethod yX5_init ∈ BIG := big_in (tb1 (List.mem_of_getElem? (i := 162) rfl)) rfl
theorem bk_225 : Cond.code yX5_init cX5_init 1 none ∈ BIG := big_in (tb1 (List.mem_of_getElem? (i := 163) rfl)) rfl
theorem bk_226 : Cond.methodLink RX5 3 objectInit ∈ BIG := big_in (tb1 (List.mem_of_getElem? (i := 164) rfl)) rfl
theorem bk_227 : Cond.fieldLink RX5 9 RX5 "seen" "[I" ∈ BIG := big_in (tb1 (List.mem_of_getElem? (i := 165) rfl)) rfl
theorem bk_231 : Cond.arrayClass .boolean ∈ BIG := big_in (tb1 (List.mem_of_getElem? (i := 169) rfl)) rfl
theorem bk_232 : Cond.fieldLink RX7 15 RX7 "text" "LRangeGraves$Text;" ∈ BIG := big_in (tb1 (List.mem_of_getElem? (i := 170) rfl)) rfl
theorem bk_233 : Cond.fieldLink RX7 24 RX7 "store" "LRangeGraves$Store;" ∈ BIG := big_in (tb1 (List.mem_of_getElem? (i := 171) rfl)) rfl
theorem bk_234 : Cond.fieldLink RX7 28 RX7 "trial" "LRangeGraves$Store;" ∈ BIG := big_in (tb1 (List.mem_of_getElem? (i := 172) rfl)) rfl
theorem bk_235 : Cond.fieldLink RX7 36 RX7 "history" "LRangeGraves$History;" ∈ BIG := big_in (tb1 (List.mem_of_getElem? (i := 173) rfl)) rfl
theorem bk_236 : Cond.fieldLink RX7 40 RX7 "slots" "[LRangeGraves$Store;" ∈ BIG := big_in (tb1 (List.mem_of_getElem? (i := 174) rfl)) rfl
theorem bk_237 : Cond.fieldLink RX7 44 RX7 "filled" "[Z" ∈ BIG := big_in (tb1 (List.mem_of_getElem? (i := 175) rfl)) rfl
theorem bk_238 : Cond.fieldLink RX7 51 RX7 "view" "LRangeGraves$View;" ∈ BIG := big_in (tb1 (List.mem_of_getElem? (i := 176) rfl)) rfl
theorem bk_254 : Cond.methodLink RL 103 yX7_clearText ∈ BIG := big_in (tb1 (List.mem_of_getElem? (i := 192) rfl)) rfl
theorem bk_255 : Cond.instanceMethod yX7_clearText ∈ BIG := big_in (tb1 (List.mem_of_getElem? (i := 193) rfl)) rfl
theorem bk_256 : Cond.selects RX7 yX7_clearText yX7_clearText ∈ BIG := big_in (tb1 (List.mem_of_getElem? (i := 194) rfl)) rfl
theorem bk_257 : Cond.code yX7_clearText cX7_clearText 2 (some .int) ∈ BIG := big_in (tb1 (List.mem_of_getElem? (i := 195) rfl)) rfl
theorem bk_258 : Cond.methodLink RX7 75 yX4_length ∈ BIG := big_in (tb1 (List.mem_of_getElem? (i := 196) rfl)) rfl
theorem bk_259 : Cond.instanceMethod yX4_length ∈ BIG := big_in (tb1 (List.mem_of_getElem? (i := 197) rfl)) rfl
theorem bk_260 : Cond.selects RX4 yX4_length yX4_length ∈ BIG := big_in (tb1 (List.mem_of_getElem? (i := 198) rfl)) rfl
theorem bk_261 : Cond.code yX4_length cX4_length 1 (some .int) ∈ BIG := big_in (tb1 (List.mem_of_getElem? (i := 199) rfl)) rfl
theorem bk_262 : Cond.methodLink RX7 79 yX4_empty ∈ BIG := big_in (tb1 (List.mem_of_getElem? (i := 200) rfl)) rfl
theorem bk_263 : Cond.instanceMethod yX4_empty ∈ BIG := big_in (tb1 (List.mem_of_getElem? (i := 201) rfl)) rfl
theorem bk_264 : Cond.selects RX4 yX4_empty yX4_empty ∈ BIG := big_in (tb1 (List.mem_of_getElem? (i := 202) rfl)) rfl
theorem bk_265 : Cond.code yX4_empty cX4_empty 1 none ∈ BIG := big_in (tb1 (List.mem_of_getElem? (i := 203) rfl)) rfl
theorem bk_266 : Cond.methodLink RL 107 yX7_errorPosition ∈ BIG := big_in (tb1 (List.mem_of_getElem? (i := 204) rfl)) rfl
theorem bk_267 : Cond.instanceMethod yX7_errorPosition ∈ BIG := big_in (tb1 (List.mem_of_getElem? (i := 205) rfl)) rfl
theorem bk_268 : Cond.selects RX7 yX7_errorPosition yX7_errorPosition ∈ BIG := big_in (tb1 (List.mem_of_getElem? (i := 206) rfl)) rfl
theorem bk_269 : Cond.code yX7_errorPosition cX7_errorPosition 1 (some .int) ∈ BIG := big_in (tb1 (List.mem_of_getElem? (i := 207) rfl)) rfl
theorem bk_270 : Cond.methodLink RX7 82 yX4_firstError ∈ BIG := big_in (tb1 (List.mem_of_getElem? (i := 208) rfl)) rfl
theorem bk_271 : Cond.instanceMethod yX4_firstError ∈ BIG := big_in (tb1 (List.mem_of_getElem? (i := 209) rfl)) rfl
theorem bk_272 : Cond.selects RX4 yX4_firstError yX4_firstError ∈ BIG := big_in (tb1 (List.mem_of_getElem? (i := 210) rfl)) rfl
theorem bk_273 : Cond.code yX4_firstError cX4_firstError 4 (some .int) ∈ BIG := big_in (tb1 (List.mem_of_getElem? (i := 211) rfl)) rfl
theorem bk_274 : Cond.methodLink RX4 19 yX4_signAt ∈ BIG := big_in (tb1 (List.mem_of_getElem? (i := 212) rfl)) rfl
theorem bk_275 : Cond.instanceMethod yX4_signAt ∈ BIG := big_in (tb1 (List.mem_of_getElem? (i := 213) rfl)) rfl
theorem bk_276 : Cond.selects RX4 yX4_signAt yX4_signAt ∈ BIG := big_in (tb1 (List.mem_of_getElem? (i := 214) rfl)) rfl
theorem bk_277 : Cond.code yX4_signAt cX4_signAt 2 (some .int) ∈ BIG := big_in (tb1 (List.mem_of_getElem? (i := 215) rfl)) rfl
theorem bk_278 : Cond.methodLink RX4 23 yX4_digitsOf ∈ BIG := big_in (tb1 (List.mem_of_getElem? (i := 216) rfl)) rfl
theorem bk_279 : Cond.static yX4_digitsOf ∈ BIG := big_in (tb1 (List.mem_of_getElem? (i := 217) rfl)) rfl
theorem bk_280 : Cond.code yX4_digitsOf cX4_digitsOf 1 (some .int) ∈ BIG := big_in (tb1 (List.mem_of_getElem? (i := 218) rfl)) rfl
theorem bk_281 : Cond.methodLink RX4 26 yX4_digitFits ∈ BIG := big_in (tb1 (List.mem_of_getElem? (i := 219) rfl)) rfl
theorem bk_283 : Cond.instanceMethod yX4_digitFits ∈ BIG := big_in (tb1 (List.mem_of_getElem? (i := 221) rfl)) rfl
theorem bk_284 : Cond.code yX4_digitFits cX4_digitFits 3 (some .boolean) ∈ BIG := big_in (tb1 (List.mem_of_getElem? (i := 222) rfl)) rfl
theorem bk_285 : Cond.methodLink RX4 30 yX4_isDigit ∈ BIG := big_in (tb1 (List.mem_of_getElem? (i := 223) rfl)) rfl
theorem bk_286 : Cond.instanceMethod yX4_isDigit ∈ BIG := big_in (tb1 (List.mem_of_getElem? (i := 224) rfl)) rfl
theorem bk_287 : Cond.selects RX4 yX4_isDigit yX4_isDigit ∈ BIG := big_in (tb1 (List.mem_of_getElem? (i := 225) rfl)) rfl
theorem bk_288 : Cond.code yX4_isDigit cX4_isDigit 2 (some .boolean) ∈ BIG := big_in (tb1 (List.mem_of_getElem? (i := 226) rfl)) rfl
theorem bk_289 : Cond.methodLink RX4 34 yX4_digitsAt ∈ BIG := big_in (tb1 (List.mem_of_getElem? (i := 227) rfl)) rfl
theorem bk_290 : Cond.instanceMethod yX4_digitsAt ∈ BIG := big_in (tb1 (List.mem_of_getElem? (i := 228) rfl)) rfl
theorem bk_291 : Cond.selects RX4 yX4_digitsAt yX4_digitsAt ∈ BIG := big_in (tb1 (List.mem_of_getElem? (i := 229) rfl)) rfl
theorem bk_292 : Cond.code yX4_digitsAt cX4_digitsAt 5 (some .int) ∈ BIG := big_in (tb1 (List.mem_of_getElem? (i := 230) rfl)) rfl
theorem bk_293 : Cond.methodLink RL 162 yX7_hidden ∈ BIG := big_in (tb1 (List.mem_of_getElem? (i := 231) rfl)) rfl
theorem bk_294 : Cond.instanceMethod yX7_hidden ∈ BIG := big_in (tb1 (List.mem_of_getElem? (i := 232) rfl)) rfl
theorem bk_295 : Cond.selects RX7 yX7_hidden yX7_hidden ∈ BIG := big_in (tb1 (List.mem_of_getElem? (i := 233) rfl)) rfl
theorem bk_296 : Cond.code yX7_hidden cX7_hidden 3 (some .int) ∈ BIG := big_in (tb1 (List.mem_of_getElem? (i := 234) rfl)) rfl
theorem bk_297 : Cond.methodLink RX7 111 yX3_size ∈ BIG := big_in (tb1 (List.mem_of_getElem? (i := 235) rfl)) rfl
theorem bk_298 : Cond.instanceMethod yX3_size ∈ BIG := big_in (tb1 (List.mem_of_getElem? (i := 236) rfl)) rfl
theorem bk_299 : Cond.selects RX3 yX3_size yX3_size ∈ BIG := big_in (tb1 (List.mem_of_getElem? (i := 237) rfl)) rfl
theorem bk_300 : Cond.code yX3_size cX3_size 1 (some .int) ∈ BIG := big_in (tb1 (List.mem_of_getElem? (i := 238) rfl)) rfl
theorem bk_301 : Cond.methodLink RX3 47 yX6_size ∈ BIG := big_in (tb1 (List.mem_of_getElem? (i := 239) rfl)) rfl
theorem bk_302 : Cond.instanceMethod yX6_size ∈ BIG := big_in (tb2 (List.mem_of_getElem? (i := 0) rfl)) rfl
theorem bk_303 : Cond.selects RX6 yX6_size yX6_size ∈ BIG := big_in (tb2 (List.mem_of_getElem? (i := 1) rfl)) rfl
theorem bk_304 : Cond.code yX6_size cX6_size 1 (some .int) ∈ BIG := big_in (tb2 (List.mem_of_getElem? (i := 2) rfl)) rfl
theorem bk_305 : Cond.methodLink RX7 257 yX6_isEntry ∈ BIG := big_in (tb2 (List.mem_of_getElem? (i := 3) rfl)) rfl
theorem bk_306 : Cond.instanceMethod yX6_isEntry ∈ BIG := big_in (tb2 (List.mem_of_getElem? (i := 4) rfl)) rfl
theorem bk_307 : Cond.selects RX6 yX6_isEntry yX6_isEntry ∈ BIG := big_in (tb2 (List.mem_of_getElem? (i := 5) rfl)) rfl
theorem bk_308 : Cond.code yX6_isEntry cX6_isEntry 2 (some .boolean) ∈ BIG := big_in (tb2 (List.mem_of_getElem? (i := 6) rfl)) rfl
theorem bk_309 : Cond.methodLink RX7 260 yX3_isSeen ∈ BIG := big_in (tb2 (List.mem_of_getElem? (i := 7) rfl)) rfl
theorem bk_310 : Cond.instanceMethod yX3_isSeen ∈ BIG := big_in (tb2 (List.mem_of_getElem? (i := 8) rfl)) rfl
theorem bk_311 : Cond.selects RX3 yX3_isSeen yX3_isSeen ∈ BIG := big_in (tb2 (List.mem_of_getElem? (i := 9) rfl)) rfl
theorem bk_312 : Cond.code yX3_isSeen cX3_isSeen 4 (some .boolean) ∈ BIG := big_in (tb2 (List.mem_of_getElem? (i := 10) rfl)) rfl
theorem bk_313 : Cond.methodLink RX3 78 yX6_firstAt ∈ BIG := big_in (tb2 (List.mem_of_getElem? (i := 11) rfl)) rfl
theorem bk_314 : Cond.instanceMethod yX6_firstAt ∈ BIG := big_in (tb2 (List.mem_of_getElem? (i := 12) rfl)) rfl
theorem bk_315 : Cond.selects RX6 yX6_firstAt yX6_firstAt ∈ BIG := big_in (tb2 (List.mem_of_getElem? (i := 13) rfl)) rfl
theorem bk_316 : Cond.code yX6_firstAt cX6_firstAt 2 (some .int) ∈ BIG := big_in (tb2 (List.mem_of_getElem? (i := 14) rfl)) rfl
theorem bk_317 : Cond.methodLink RX3 106 yX3_limitOf ∈ BIG := big_in (tb2 (List.mem_of_getElem? (i := 15) rfl)) rfl
theorem bk_318 : Cond.instanceMethod yX3_limitOf ∈ BIG := big_in (tb2 (List.mem_of_getElem? (i := 16) rfl)) rfl
theorem bk_319 : Cond.selects RX3 yX3_limitOf yX3_limitOf ∈ BIG := big_in (tb2 (List.mem_of_getElem? (i := 17) rfl)) rfl
theorem bk_320 : Cond.code yX3_limitOf cX3_limitOf 2 (some .int) ∈ BIG := big_in (tb2 (List.mem_of_getElem? (i := 18) rfl)) rfl
theorem bk_321 : Cond.methodLink RX3 89 yX3_isEye ∈ BIG := big_in (tb2 (List.mem_of_getElem? (i := 19) rfl)) rfl
theorem bk_322 : Cond.instanceMethod yX3_isEye ∈ BIG := big_in (tb2 (List.mem_of_getElem? (i := 20) rfl)) rfl
theorem bk_323 : Cond.selects RX3 yX3_isEye yX3_isEye ∈ BIG := big_in (tb2 (List.mem_of_getElem? (i := 21) rfl)) rfl
theorem bk_324 : Cond.code yX3_isEye cX3_isEye 2 (some .boolean) ∈ BIG := big_in (tb2 (List.mem_of_getElem? (i := 22) rfl)) rfl
theorem bk_325 : Cond.methodLink RX3 99 yX3_newestFor ∈ BIG := big_in (tb2 (List.mem_of_getElem? (i := 23) rfl)) rfl
theorem bk_326 : Cond.instanceMethod yX3_newestFor ∈ BIG := big_in (tb2 (List.mem_of_getElem? (i := 24) rfl)) rfl
theorem bk_327 : Cond.selects RX3 yX3_newestFor yX3_newestFor ∈ BIG := big_in (tb2 (List.mem_of_getElem? (i := 25) rfl)) rfl
theorem bk_328 : Cond.code yX3_newestFor cX3_newestFor 4 (some .int) ∈ BIG := big_in (tb2 (List.mem_of_getElem? (i := 26) rfl)) rfl
theorem bk_329 : Cond.methodLink RX3 92 yX6_numberAt ∈ BIG := big_in (tb2 (List.mem_of_getElem? (i := 27) rfl)) rfl
theorem bk_330 : Cond.instanceMethod yX6_numberAt ∈ BIG := big_in (tb2 (List.mem_of_getElem? (i := 28) rfl)) rfl
theorem bk_331 : Cond.selects RX6 yX6_numberAt yX6_numberAt ∈ BIG := big_in (tb2 (List.mem_of_getElem? (i := 29) rfl)) rfl
theorem bk_332 : Cond.code yX6_numberAt cX6_numberAt 2 (some .int) ∈ BIG := big_in (tb2 (List.mem_of_getElem? (i := 30) rfl)) rfl
theorem bk_333 : Cond.methodLink RX3 95 yX6_concerns ∈ BIG := big_in (tb2 (List.mem_of_getElem? (i := 31) rfl)) rfl
theorem bk_334 : Cond.instanceMethod yX6_concerns ∈ BIG := big_in (tb2 (List.mem_of_getElem? (i := 32) rfl)) rfl
theorem bk_335 : Cond.selects RX6 yX6_concerns yX6_concerns ∈ BIG := big_in (tb2 (List.mem_of_getElem? (i := 33) rfl)) rfl
theorem bk_336 : Cond.code yX6_concerns cX6_concerns 3 (some .boolean) ∈ BIG := big_in (tb2 (List.mem_of_getElem? (i := 34) rfl)) rfl
theorem bk_337 : Cond.methodLink RL 172 yX7_best ∈ BIG := big_in (tb2 (List.mem_of_getElem? (i := 35) rfl)) rfl
theorem bk_338 : Cond.instanceMethod yX7_best ∈ BIG := big_in (tb2 (List.mem_of_getElem? (i := 36) rfl)) rfl
theorem bk_339 : Cond.selects RX7 yX7_best yX7_best ∈ BIG := big_in (tb2 (List.mem_of_getElem? (i := 37) rfl)) rfl
theorem bk_340 : Cond.code yX7_best cX7_best 4 (some .int) ∈ BIG := big_in (tb2 (List.mem_of_getElem? (i := 38) rfl)) rfl
theorem bk_341 : Cond.methodLink RX7 105 yX3_runs ∈ BIG := big_in (tb2 (List.mem_of_getElem? (i := 39) rfl)) rfl
theorem bk_342 : Cond.instanceMethod yX3_runs ∈ BIG := big_in (tb2 (List.mem_of_getElem? (i := 40) rfl)) rfl
theorem bk_343 : Cond.selects RX3 yX3_runs yX3_runs ∈ BIG := big_in (tb2 (List.mem_of_getElem? (i := 41) rfl)) rfl
theorem bk_344 : Cond.code yX3_runs cX3_runs 1 (some .int) ∈ BIG := big_in (tb2 (List.mem_of_getElem? (i := 42) rfl)) rfl
theorem bk_345 : Cond.methodLink RX7 237 yX3_canMerge ∈ BIG := big_in (tb2 (List.mem_of_getElem? (i := 43) rfl)) rfl
theorem bk_346 : Cond.instanceMethod yX3_canMerge ∈ BIG := big_in (tb2 (List.mem_of_getElem? (i := 44) rfl)) rfl
theorem bk_347 : Cond.selects RX3 yX3_canMerge yX3_canMerge ∈ BIG := big_in (tb2 (List.mem_of_getElem? (i := 45) rfl)) rfl
theorem bk_348 : Cond.code yX3_canMerge cX3_canMerge 3 (some .boolean) ∈ BIG := big_in (tb2 (List.mem_of_getElem? (i := 46) rfl)) rfl
theorem bk_349 : Cond.methodLink RX3 61 yX3_isRun ∈ BIG := big_in (tb2 (List.mem_of_getElem? (i := 47) rfl)) rfl
theorem bk_350 : Cond.instanceMethod yX3_isRun ∈ BIG := big_in (tb2 (List.mem_of_getElem? (i := 48) rfl)) rfl
theorem bk_351 : Cond.selects RX3 yX3_isRun yX3_isRun ∈ BIG := big_in (tb2 (List.mem_of_getElem? (i := 49) rfl)) rfl
theorem bk_352 : Cond.code yX3_isRun cX3_isRun 2 (some .boolean) ∈ BIG := big_in (tb2 (List.mem_of_getElem? (i := 50) rfl)) rfl
theorem bk_353 : Cond.methodLink RX3 109 yX3_sizeOf ∈ BIG := big_in (tb2 (List.mem_of_getElem? (i := 51) rfl)) rfl
theorem bk_354 : Cond.instanceMethod yX3_sizeOf ∈ BIG := big_in (tb2 (List.mem_of_getElem? (i := 52) rfl)) rfl
theorem bk_355 : Cond.selects RX3 yX3_sizeOf yX3_sizeOf ∈ BIG := big_in (tb2 (List.mem_of_getElem? (i := 53) rfl)) rfl
theorem bk_356 : Cond.code yX3_sizeOf cX3_sizeOf 2 (some .int) ∈ BIG := big_in (tb2 (List.mem_of_getElem? (i := 54) rfl)) rfl
theorem bk_357 : Cond.methodLink RX3 65 yX3_endOf ∈ BIG := big_in (tb2 (List.mem_of_getElem? (i := 55) rfl)) rfl
theorem bk_358 : Cond.instanceMethod yX3_endOf ∈ BIG := big_in (tb2 (List.mem_of_getElem? (i := 56) rfl)) rfl
theorem bk_359 : Cond.selects RX3 yX3_endOf yX3_endOf ∈ BIG := big_in (tb2 (List.mem_of_getElem? (i := 57) rfl)) rfl
theorem bk_360 : Cond.code yX3_endOf cX3_endOf 3 (some .int) ∈ BIG := big_in (tb2 (List.mem_of_getElem? (i := 58) rfl)) rfl
theorem bk_361 : Cond.methodLink RX3 69 yX3_startOf ∈ BIG := big_in (tb2 (List.mem_of_getElem? (i := 59) rfl)) rfl
theorem bk_362 : Cond.instanceMethod yX3_startOf ∈ BIG := big_in (tb2 (List.mem_of_getElem? (i := 60) rfl)) rfl
theorem bk_363 : Cond.selects RX3 yX3_startOf yX3_startOf ∈ BIG := big_in (tb2 (List.mem_of_getElem? (i := 61) rfl)) rfl
theorem bk_364 : Cond.code yX3_startOf cX3_startOf 3 (some .int) ∈ BIG := big_in (tb2 (List.mem_of_getElem? (i := 62) rfl)) rfl
theorem bk_365 : Cond.methodLink RX3 112 yX0_clean ∈ BIG := big_in (tb2 (List.mem_of_getElem? (i := 63) rfl)) rfl
theorem bk_366 : Cond.instanceMethod yX0_clean ∈ BIG := big_in (tb2 (List.mem_of_getElem? (i := 64) rfl)) rfl
theorem bk_367 : Cond.selects RX0 yX0_clean yX0_clean ∈ BIG := big_in (tb2 (List.mem_of_getElem? (i := 65) rfl)) rfl
theorem bk_368 : Cond.code yX0_clean cX0_clean 7 (some .int) ∈ BIG := big_in (tb2 (List.mem_of_getElem? (i := 66) rfl)) rfl
theorem bk_369 : Cond.methodLink RX0 37 yX6_empty ∈ BIG := big_in (tb2 (List.mem_of_getElem? (i := 67) rfl)) rfl
theorem bk_370 : Cond.instanceMethod yX6_empty ∈ BIG := big_in (tb2 (List.mem_of_getElem? (i := 68) rfl)) rfl
theorem bk_371 : Cond.selects RX6 yX6_empty yX6_empty ∈ BIG := big_in (tb2 (List.mem_of_getElem? (i := 69) rfl)) rfl
theorem bk_372 : Cond.code yX6_empty cX6_empty 1 none ∈ BIG := big_in (tb2 (List.mem_of_getElem? (i := 70) rfl)) rfl
theorem bk_373 : Cond.methodLink RX0 40 yX3_startOf ∈ BIG := big_in (tb2 (List.mem_of_getElem? (i := 71) rfl)) rfl
theorem bk_374 : Cond.methodLink RX0 46 yX3_endOf ∈ BIG := big_in (tb2 (List.mem_of_getElem? (i := 72) rfl)) rfl
theorem bk_375 : Cond.methodLink RX0 49 yX0_dropHidden ∈ BIG := big_in (tb2 (List.mem_of_getElem? (i := 73) rfl)) rfl
theorem bk_377 : Cond.instanceMethod yX0_dropHidden ∈ BIG := big_in (tb2 (List.mem_of_getElem? (i := 75) rfl)) rfl
theorem bk_378 : Cond.code yX0_dropHidden cX0_dropHidden 7 none ∈ BIG := big_in (tb2 (List.mem_of_getElem? (i := 76) rfl)) rfl
theorem bk_379 : Cond.methodLink RX0 71 yX6_numberAt ∈ BIG := big_in (tb2 (List.mem_of_getElem? (i := 77) rfl)) rfl
theorem bk_380 : Cond.methodLink RX0 74 yX3_eyesBefore ∈ BIG := big_in (tb2 (List.mem_of_getElem? (i := 78) rfl)) rfl
theorem bk_381 : Cond.instanceMethod yX3_eyesBefore ∈ BIG := big_in (tb2 (List.mem_of_getElem? (i := 79) rfl)) rfl
theorem bk_382 : Cond.selects RX3 yX3_eyesBefore yX3_eyesBefore ∈ BIG := big_in (tb2 (List.mem_of_getElem? (i := 80) rfl)) rfl
theorem bk_383 : Cond.code yX3_eyesBefore cX3_eyesBefore 4 (some .int) ∈ BIG := big_in (tb2 (List.mem_of_getElem? (i := 81) rfl)) rfl
theorem bk_384 : Cond.methodLink RX0 77 yX2_empty ∈ BIG := big_in (tb2 (List.mem_of_getElem? (i := 82) rfl)) rfl
theorem bk_385 : Cond.instanceMethod yX2_empty ∈ BIG := big_in (tb2 (List.mem_of_getElem? (i := 83) rfl)) rfl
theorem bk_386 : Cond.selects RX2 yX2_empty yX2_empty ∈ BIG := big_in (tb2 (List.mem_of_getElem? (i := 84) rfl)) rfl
theorem bk_387 : Cond.code yX2_empty cX2_empty 1 none ∈ BIG := big_in (tb2 (List.mem_of_getElem? (i := 85) rfl)) rfl
theorem bk_388 : Cond.methodLink RX0 78 yX6_firstAt ∈ BIG := big_in (tb2 (List.mem_of_getElem? (i := 86) rfl)) rfl
theorem bk_389 : Cond.methodLink RX0 81 yX6_lastAt ∈ BIG := big_in (tb2 (List.mem_of_getElem? (i := 87) rfl)) rfl
theorem bk_390 : Cond.instanceMethod yX6_lastAt ∈ BIG := big_in (tb2 (List.mem_of_getElem? (i := 88) rfl)) rfl
theorem bk_391 : Cond.selects RX6 yX6_lastAt yX6_lastAt ∈ BIG := big_in (tb2 (List.mem_of_getElem? (i := 89) rfl)) rfl
theorem bk_392 : Cond.code yX6_lastAt cX6_lastAt 2 (some .int) ∈ BIG := big_in (tb2 (List.mem_of_getElem? (i := 90) rfl)) rfl
theorem bk_393 : Cond.methodLink RX0 84 yX2_addRow ∈ BIG := big_in (tb2 (List.mem_of_getElem? (i := 91) rfl)) rfl
theorem bk_394 : Cond.instanceMethod yX2_addRow ∈ BIG := big_in (tb2 (List.mem_of_getElem? (i := 92) rfl)) rfl
theorem bk_395 : Cond.selects RX2 yX2_addRow yX2_addRow ∈ BIG := big_in (tb2 (List.mem_of_getElem? (i := 93) rfl)) rfl
theorem bk_396 : Cond.code yX2_addRow cX2_addRow 3 none ∈ BIG := big_in (tb2 (List.mem_of_getElem? (i := 94) rfl)) rfl
theorem bk_397 : Cond.constantLong RX2 18 (-1) ∈ BIG := big_in (tb2 (List.mem_of_getElem? (i := 95) rfl)) rfl
theorem bk_398 : Cond.methodLink RX2 20 yJ9_min_7cf53 ∈ BIG := big_in (tb2 (List.mem_of_getElem? (i := 96) rfl)) rfl
theorem bk_399 : Cond.static yJ9_min_7cf53 ∈ BIG := big_in (tb2 (List.mem_of_getElem? (i := 97) rfl)) rfl
theorem bk_400 : Cond.code Lib.Math.min.name Lib.Math.min.code 2 (some .int) ∈ BIG := big_in (tb2 (List.mem_of_getElem? (i := 98) rfl)) rfl
theorem bk_401 : Cond.methodLink RX2 26 yJ9_max_7cf53 ∈ BIG := big_in (tb2 (List.mem_of_getElem? (i := 99) rfl)) rfl
theorem bk_402 : Cond.methodLink RX0 88 yX6_isEntry ∈ BIG := big_in (tb2 (List.mem_of_getElem? (i := 100) rfl)) rfl
theorem bk_403 : Cond.methodLink RX0 92 yX2_removeAll ∈ BIG := big_in (tb2 (List.mem_of_getElem? (i := 101) rfl)) rfl
theorem bk_404 : Cond.instanceMethod yX2_removeAll ∈ BIG := big_in (tb2 (List.mem_of_getElem? (i := 102) rfl)) rfl
theorem bk_405 : Cond.selects RX2 yX2_removeAll yX2_removeAll ∈ BIG := big_in (tb2 (List.mem_of_getElem? (i := 103) rfl)) rfl
theorem bk_406 : Cond.code yX2_removeAll cX2_removeAll 2 none ∈ BIG := big_in (tb2 (List.mem_of_getElem? (i := 104) rfl)) rfl
theorem bk_407 : Cond.methodLink RX0 53 yX3_runs ∈ BIG := big_in (tb2 (List.mem_of_getElem? (i := 105) rfl)) rfl
theorem bk_408 : Cond.methodLink RX0 60 yX0_dropNeedless ∈ BIG := big_in (tb2 (List.mem_of_getElem? (i := 106) rfl)) rfl
theorem bk_410 : Cond.instanceMethod yX0_dropNeedless ∈ BIG := big_in (tb2 (List.mem_of_getElem? (i := 108) rfl)) rfl
theorem bk_411 : Cond.code yX0_dropNeedless cX0_dropNeedless 5 none ∈ BIG := big_in (tb2 (List.mem_of_getElem? (i := 109) rfl)) rfl
theorem bk_412 : Cond.methodLink RX0 96 yX2_addAll ∈ BIG := big_in (tb2 (List.mem_of_getElem? (i := 110) rfl)) rfl
theorem bk_413 : Cond.instanceMethod yX2_addAll ∈ BIG := big_in (tb2 (List.mem_of_getElem? (i := 111) rfl)) rfl
theorem bk_414 : Cond.selects RX2 yX2_addAll yX2_addAll ∈ BIG := big_in (tb2 (List.mem_of_getElem? (i := 112) rfl)) rfl
theorem bk_415 : Cond.code yX2_addAll cX2_addAll 2 none ∈ BIG := big_in (tb2 (List.mem_of_getElem? (i := 113) rfl)) rfl
theorem bk_416 : Cond.methodLink RX0 99 yX2_keepOnly ∈ BIG := big_in (tb2 (List.mem_of_getElem? (i := 114) rfl)) rfl
theorem bk_417 : Cond.instanceMethod yX2_keepOnly ∈ BIG := big_in (tb2 (List.mem_of_getElem? (i := 115) rfl)) rfl
theorem bk_418 : Cond.selects RX2 yX2_keepOnly yX2_keepOnly ∈ BIG := big_in (tb2 (List.mem_of_getElem? (i := 116) rfl)) rfl
theorem bk_419 : Cond.code yX2_keepOnly cX2_keepOnly 2 none ∈ BIG := big_in (tb2 (List.mem_of_getElem? (i := 117) rfl)) rfl
theorem bk_420 : Cond.methodLink RX0 64 yX0_addRows ∈ BIG := big_in (tb2 (List.mem_of_getElem? (i := 118) rfl)) rfl
theorem bk_422 : Cond.instanceMethod yX0_addRows ∈ BIG := big_in (tb2 (List.mem_of_getElem? (i := 120) rfl)) rfl
theorem bk_423 : Cond.code yX0_addRows cX0_addRows 7 none ∈ BIG := big_in (tb2 (List.mem_of_getElem? (i := 121) rfl)) rfl
theorem bk_424 : Cond.methodLink RX0 102 yX2_has ∈ BIG := big_in (tb2 (List.mem_of_getElem? (i := 122) rfl)) rfl
theorem bk_425 : Cond.instanceMethod yX2_has ∈ BIG := big_in (tb2 (List.mem_of_getElem? (i := 123) rfl)) rfl
theorem bk_426 : Cond.selects RX2 yX2_has yX2_has ∈ BIG := big_in (tb2 (List.mem_of_getElem? (i := 124) rfl)) rfl
theorem bk_427 : Cond.code yX2_has cX2_has 4 (some .boolean) ∈ BIG := big_in (tb2 (List.mem_of_getElem? (i := 125) rfl)) rfl
theorem bk_428 : Cond.methodLink RX0 105 yX6_valueAt ∈ BIG := big_in (tb2 (List.mem_of_getElem? (i := 126) rfl)) rfl
theorem bk_429 : Cond.instanceMethod yX6_valueAt ∈ BIG := big_in (tb2 (List.mem_of_getElem? (i := 127) rfl)) rfl
theorem bk_430 : Cond.selects RX6 yX6_valueAt yX6_valueAt ∈ BIG := big_in (tb2 (List.mem_of_getElem? (i := 128) rfl)) rfl
theorem bk_431 : Cond.code yX6_valueAt cX6_valueAt 2 (some .int) ∈ BIG := big_in (tb2 (List.mem_of_getElem? (i := 129) rfl)) rfl
theorem bk_432 : Cond.methodLink RX0 108 yX6_add ∈ BIG := big_in (tb2 (List.mem_of_getElem? (i := 130) rfl)) rfl
theorem bk_433 : Cond.instanceMethod yX6_add ∈ BIG := big_in (tb2 (List.mem_of_getElem? (i := 131) rfl)) rfl
theorem bk_434 : Cond.selects RX6 yX6_add yX6_add ∈ BIG := big_in (tb2 (List.mem_of_getElem? (i := 132) rfl)) rfl
theorem bk_435 : Cond.code yX6_add cX6_add 5 none ∈ BIG := big_in (tb2 (List.mem_of_getElem? (i := 133) rfl)) rfl
theorem bk_436 : Cond.methodLink RX0 68 yX6_size ∈ BIG := big_in (tb2 (List.mem_of_getElem? (i := 134) rfl)) rfl
theorem bk_437 : Cond.methodLink RX7 267 yX3_savedBy ∈ BIG := big_in (tb2 (List.mem_of_getElem? (i := 135) rfl)) rfl
theorem bk_438 : Cond.instanceMethod yX3_savedBy ∈ BIG := big_in (tb2 (List.mem_of_getElem? (i := 136) rfl)) rfl
theorem bk_439 : Cond.selects RX3 yX3_savedBy yX3_savedBy ∈ BIG := big_in (tb2 (List.mem_of_getElem? (i := 137) rfl)) rfl
theorem bk_440 : Cond.code yX3_savedBy cX3_savedBy 2 (some .int) ∈ BIG := big_in (tb2 (List.mem_of_getElem? (i := 138) rfl)) rfl
theorem bk_441 : Cond.methodLink RL 176 yX7_fewest ∈ BIG := big_in (tb2 (List.mem_of_getElem? (i := 139) rfl)) rfl
theorem bk_442 : Cond.instanceMethod yX7_fewest ∈ BIG := big_in (tb2 (List.mem_of_getElem? (i := 140) rfl)) rfl
theorem bk_443 : Cond.selects RX7 yX7_fewest yX7_fewest ∈ BIG := big_in (tb2 (List.mem_of_getElem? (i := 141) rfl)) rfl
theorem bk_444 : Cond.code yX7_fewest cX7_fewest 2 (some .int) ∈ BIG := big_in (tb2 (List.mem_of_getElem? (i := 142) rfl)) rfl
theorem bk_445 : Cond.methodLink RX7 270 yX3_become ∈ BIG := big_in (tb2 (List.mem_of_getElem? (i := 143) rfl)) rfl
theorem bk_446 : Cond.instanceMethod yX3_become ∈ BIG := big_in (tb2 (List.mem_of_getElem? (i := 144) rfl)) rfl
theorem bk_447 : Cond.selects RX3 yX3_become yX3_become ∈ BIG := big_in (tb2 (List.mem_of_getElem? (i := 145) rfl)) rfl
theorem bk_448 : Cond.code yX3_become cX3_become 2 none ∈ BIG := big_in (tb2 (List.mem_of_getElem? (i := 146) rfl)) rfl
theorem bk_449 : Cond.methodLink RX3 51 yX6_replace ∈ BIG := big_in (tb2 (List.mem_of_getElem? (i := 147) rfl)) rfl
theorem bk_450 : Cond.instanceMethod yX6_replace ∈ BIG := big_in (tb2 (List.mem_of_getElem? (i := 148) rfl)) rfl
theorem bk_451 : Cond.selects RX6 yX6_replace yX6_replace ∈ BIG := big_in (tb2 (List.mem_of_getElem? (i := 149) rfl)) rfl
theorem bk_452 : Cond.code yX6_replace cX6_replace 6 none ∈ BIG := big_in (tb2 (List.mem_of_getElem? (i := 150) rfl)) rfl
theorem bk_453 : Cond.methodLink RX6 34 arraycopyName ∈ BIG := big_in (tb2 (List.mem_of_getElem? (i := 151) rfl)) rfl
theorem bk_454 : Cond.static arraycopyName ∈ BIG := big_in (tb2 (List.mem_of_getElem? (i := 152) rfl)) rfl
theorem bk_455 : Cond.native arraycopyName ∈ BIG := big_in (tb2 (List.mem_of_getElem? (i := 153) rfl)) rfl
theorem bk_456 : Cond.methodLink RX3 55 arraycopyName ∈ BIG := big_in (tb2 (List.mem_of_getElem? (i := 154) rfl)) rfl
theorem bk_457 : Cond.methodLink RX7 273 yX3_dropAllEyes ∈ BIG := big_in (tb2 (List.mem_of_getElem? (i := 155) rfl)) rfl
theorem bk_458 : Cond.instanceMethod yX3_dropAllEyes ∈ BIG := big_in (tb2 (List.mem_of_getElem? (i := 156) rfl)) rfl
theorem bk_459 : Cond.selects RX3 yX3_dropAllEyes yX3_dropAllEyes ∈ BIG := big_in (tb2 (List.mem_of_getElem? (i := 157) rfl)) rfl
theorem bk_460 : Cond.code yX3_dropAllEyes cX3_dropAllEyes 1 none ∈ BIG := big_in (tb2 (List.mem_of_getElem? (i := 158) rfl)) rfl
theorem bk_461 : Cond.methodLink RX7 101 yX3_sizeOf ∈ BIG := big_in (tb2 (List.mem_of_getElem? (i := 159) rfl)) rfl
theorem bk_462 : Cond.methodLink RX7 231 yX3_flushMemory ∈ BIG := big_in (tb2 (List.mem_of_getElem? (i := 160) rfl)) rfl
theorem bk_463 : Cond.instanceMethod yX3_flushMemory ∈ BIG := big_in (tb2 (List.mem_of_getElem? (i := 161) rfl)) rfl
theorem bk_464 : Cond.selects RX3 yX3_flushMemory yX3_flushMemory ∈ BIG := big_in (tb2 (List.mem_of_getElem? (i := 162) rfl)) rfl
theorem bk_465 : Cond.code yX3_flushMemory cX3_flushMemory 2 (some .int) ∈ BIG := big_in (tb2 (List.mem_of_getElem? (i := 163) rfl)) rfl
theorem bk_466 : Cond.methodLink RX7 242 yX3_mergeRuns ∈ BIG := big_in (tb2 (List.mem_of_getElem? (i := 164) rfl)) rfl
theorem bk_467 : Cond.instanceMethod yX3_mergeRuns ∈ BIG := big_in (tb2 (List.mem_of_getElem? (i := 165) rfl)) rfl
theorem bk_468 : Cond.selects RX3 yX3_mergeRuns yX3_mergeRuns ∈ BIG := big_in (tb2 (List.mem_of_getElem? (i := 166) rfl)) rfl
theorem bk_469 : Cond.code yX3_mergeRuns cX3_mergeRuns 7 (some .int) ∈ BIG := big_in (tb2 (List.mem_of_getElem? (i := 167) rfl)) rfl
theorem bk_470 : Cond.methodLink RL 94 yL_append ∈ BIG := big_in (tb2 (List.mem_of_getElem? (i := 168) rfl)) rfl
theorem bk_471 : Cond.static yL_append ∈ BIG := big_in (tb2 (List.mem_of_getElem? (i := 169) rfl)) rfl
theorem bk_472 : Cond.codeWith yL_append cL_append 4 (some .int) [(0, 9, 12, 13), (0, 9, 15, 15)] ∈ BIG := big_in (tb2 (List.mem_of_getElem? (i := 170) rfl)) rfl
theorem bk_473 : Cond.classLink RL 13 "java/lang/IllegalArgumentException" ∈ BIG := big_in (tb2 (List.mem_of_getElem? (i := 171) rfl)) rfl
theorem bk_474 : Cond.classLink RL 15 "java/lang/IllegalStateException" ∈ BIG := big_in (tb2 (List.mem_of_getElem? (i := 172) rfl)) rfl
theorem bk_475 : Cond.methodLink RL 7 yX7_append ∈ BIG := big_in (tb2 (List.mem_of_getElem? (i := 173) rfl)) rfl
theorem bk_476 : Cond.instanceMethod yX7_append ∈ BIG := big_in (tb2 (List.mem_of_getElem? (i := 174) rfl)) rfl
theorem bk_477 : Cond.selects RX7 yX7_append yX7_append ∈ BIG := big_in (tb2 (List.mem_of_getElem? (i := 175) rfl)) rfl
theorem bk_478 : Cond.code yX7_append cX7_append 2 (some .int) ∈ BIG := big_in (tb2 (List.mem_of_getElem? (i := 176) rfl)) rfl
theorem bk_479 : Cond.classLink RX7 55 "java/lang/IllegalArgumentException" ∈ BIG := big_in (tb2 (List.mem_of_getElem? (i := 177) rfl)) rfl
theorem bk_547 : Cond.methodLink RX7 62 yX4_isFull ∈ BIG := big_in (tb3 (List.mem_of_getElem? (i := 5) rfl)) rfl
theorem bk_548 : Cond.instanceMethod yX4_isFull ∈ BIG := big_in (tb3 (List.mem_of_getElem? (i := 6) rfl)) rfl
theorem bk_549 : Cond.selects RX4 yX4_isFull yX4_isFull ∈ BIG := big_in (tb3 (List.mem_of_getElem? (i := 7) rfl)) rfl
theorem bk_550 : Cond.code yX4_isFull cX4_isFull 1 (some .boolean) ∈ BIG := big_in (tb3 (List.mem_of_getElem? (i := 8) rfl)) rfl
theorem bk_551 : Cond.classLink RX7 66 "java/lang/IllegalStateException" ∈ BIG := big_in (tb3 (List.mem_of_getElem? (i := 9) rfl)) rfl
theorem bk_567 : Cond.methodLink RX7 71 yX4_addSign ∈ BIG := big_in (tb3 (List.mem_of_getElem? (i := 25) rfl)) rfl
theorem bk_568 : Cond.instanceMethod yX4_addSign ∈ BIG := big_in (tb3 (List.mem_of_getElem? (i := 26) rfl)) rfl
theorem bk_569 : Cond.selects RX4 yX4_addSign yX4_addSign ∈ BIG := big_in (tb3 (List.mem_of_getElem? (i := 27) rfl)) rfl
theorem bk_570 : Cond.code yX4_addSign cX4_addSign 2 none ∈ BIG := big_in (tb3 (List.mem_of_getElem? (i := 28) rfl)) rfl
theorem bk_571 : Cond.methodLink RL 111 yL_load ∈ BIG := big_in (tb3 (List.mem_of_getElem? (i := 29) rfl)) rfl
theorem bk_572 : Cond.static yL_load ∈ BIG := big_in (tb3 (List.mem_of_getElem? (i := 30) rfl)) rfl
theorem bk_573 : Cond.codeWith yL_load cL_load 3 (some .int) [(0, 8, 11, 15)] ∈ BIG := big_in (tb3 (List.mem_of_getElem? (i := 31) rfl)) rfl
theorem bk_574 : Cond.methodLink RL 17 yX7_load ∈ BIG := big_in (tb3 (List.mem_of_getElem? (i := 32) rfl)) rfl
theorem bk_575 : Cond.instanceMethod yX7_load ∈ BIG := big_in (tb3 (List.mem_of_getElem? (i := 33) rfl)) rfl
theorem bk_576 : Cond.selects RX7 yX7_load yX7_load ∈ BIG := big_in (tb3 (List.mem_of_getElem? (i := 34) rfl)) rfl
theorem bk_577 : Cond.code yX7_load cX7_load 3 (some .int) ∈ BIG := big_in (tb3 (List.mem_of_getElem? (i := 35) rfl)) rfl
theorem bk_579 : Cond.methodLink RX7 87 yX3_empty ∈ BIG := big_in (tb3 (List.mem_of_getElem? (i := 37) rfl)) rfl
theorem bk_580 : Cond.instanceMethod yX3_empty ∈ BIG := big_in (tb3 (List.mem_of_getElem? (i := 38) rfl)) rfl
theorem bk_581 : Cond.selects RX3 yX3_empty yX3_empty ∈ BIG := big_in (tb3 (List.mem_of_getElem? (i := 39) rfl)) rfl
theorem bk_582 : Cond.code yX3_empty cX3_empty 1 none ∈ BIG := big_in (tb3 (List.mem_of_getElem? (i := 40) rfl)) rfl
theorem bk_583 : Cond.methodLink RX3 31 yX6_empty ∈ BIG := big_in (tb3 (List.mem_of_getElem? (i := 41) rfl)) rfl
theorem bk_584 : Cond.methodLink RX7 88 yX1_forgetAll ∈ BIG := big_in (tb3 (List.mem_of_getElem? (i := 42) rfl)) rfl
theorem bk_585 : Cond.instanceMethod yX1_forgetAll ∈ BIG := big_in (tb3 (List.mem_of_getElem? (i := 43) rfl)) rfl
theorem bk_586 : Cond.selects RX1 yX1_forgetAll yX1_forgetAll ∈ BIG := big_in (tb3 (List.mem_of_getElem? (i := 44) rfl)) rfl
theorem bk_587 : Cond.code yX1_forgetAll cX1_forgetAll 1 none ∈ BIG := big_in (tb3 (List.mem_of_getElem? (i := 45) rfl)) rfl
theorem bk_588 : Cond.methodLink RX7 91 yX4_isDigit ∈ BIG := big_in (tb3 (List.mem_of_getElem? (i := 46) rfl)) rfl
theorem bk_589 : Cond.methodLink RX7 95 yX7_doTextCommand ∈ BIG := big_in (tb3 (List.mem_of_getElem? (i := 47) rfl)) rfl
theorem bk_591 : Cond.instanceMethod yX7_doTextCommand ∈ BIG := big_in (tb3 (List.mem_of_getElem? (i := 49) rfl)) rfl
theorem bk_592 : Cond.code yX7_doTextCommand cX7_doTextCommand 2 (some .boolean) ∈ BIG := big_in (tb3 (List.mem_of_getElem? (i := 50) rfl)) rfl
theorem bk_593 : Cond.methodLink RX7 302 yX4_signAt ∈ BIG := big_in (tb3 (List.mem_of_getElem? (i := 51) rfl)) rfl
theorem bk_594 : Cond.methodLink RX7 305 yX4_digitsAt ∈ BIG := big_in (tb3 (List.mem_of_getElem? (i := 52) rfl)) rfl
theorem bk_595 : Cond.methodLink RX7 308 yX3_tryPut ∈ BIG := big_in (tb3 (List.mem_of_getElem? (i := 53) rfl)) rfl
theorem bk_596 : Cond.instanceMethod yX3_tryPut ∈ BIG := big_in (tb3 (List.mem_of_getElem? (i := 54) rfl)) rfl
theorem bk_597 : Cond.selects RX3 yX3_tryPut yX3_tryPut ∈ BIG := big_in (tb3 (List.mem_of_getElem? (i := 55) rfl)) rfl
theorem bk_598 : Cond.code yX3_tryPut cX3_tryPut 3 (some .boolean) ∈ BIG := big_in (tb3 (List.mem_of_getElem? (i := 56) rfl)) rfl
theorem bk_600 : Cond.static yX7_isKey ∈ BIG := big_in (tb3 (List.mem_of_getElem? (i := 58) rfl)) rfl
theorem bk_601 : Cond.code yX7_isKey cX7_isKey 1 (some .boolean) ∈ BIG := big_in (tb3 (List.mem_of_getElem? (i := 59) rfl)) rfl
theorem bk_603 : Cond.static yX7_isValue ∈ BIG := big_in (tb3 (List.mem_of_getElem? (i := 61) rfl)) rfl
theorem bk_604 : Cond.code yX7_isValue cX7_isValue 1 (some .boolean) ∈ BIG := big_in (tb3 (List.mem_of_getElem? (i := 62) rfl)) rfl
theorem bk_605 : Cond.methodLink RX3 131 yX3_isFull ∈ BIG := big_in (tb3 (List.mem_of_getElem? (i := 63) rfl)) rfl
theorem bk_606 : Cond.instanceMethod yX3_isFull ∈ BIG := big_in (tb3 (List.mem_of_getElem? (i := 64) rfl)) rfl
theorem bk_607 : Cond.selects RX3 yX3_isFull yX3_isFull ∈ BIG := big_in (tb3 (List.mem_of_getElem? (i := 65) rfl)) rfl
theorem bk_608 : Cond.code yX3_isFull cX3_isFull 1 (some .boolean) ∈ BIG := big_in (tb3 (List.mem_of_getElem? (i := 66) rfl)) rfl
theorem bk_609 : Cond.methodLink RX3 135 yX3_addWrite ∈ BIG := big_in (tb3 (List.mem_of_getElem? (i := 67) rfl)) rfl
theorem bk_610 : Cond.instanceMethod yX3_addWrite ∈ BIG := big_in (tb3 (List.mem_of_getElem? (i := 68) rfl)) rfl
theorem bk_611 : Cond.selects RX3 yX3_addWrite yX3_addWrite ∈ BIG := big_in (tb3 (List.mem_of_getElem? (i := 69) rfl)) rfl
theorem bk_612 : Cond.code yX3_addWrite cX3_addWrite 4 none ∈ BIG := big_in (tb3 (List.mem_of_getElem? (i := 70) rfl)) rfl
theorem bk_613 : Cond.methodLink RX3 118 yX6_add ∈ BIG := big_in (tb3 (List.mem_of_getElem? (i := 71) rfl)) rfl
theorem bk_614 : Cond.methodLink RX7 311 yX3_tryBury ∈ BIG := big_in (tb3 (List.mem_of_getElem? (i := 72) rfl)) rfl
theorem bk_615 : Cond.instanceMethod yX3_tryBury ∈ BIG := big_in (tb3 (List.mem_of_getElem? (i := 73) rfl)) rfl
theorem bk_616 : Cond.selects RX3 yX3_tryBury yX3_tryBury ∈ BIG := big_in (tb3 (List.mem_of_getElem? (i := 74) rfl)) rfl
theorem bk_617 : Cond.code yX3_tryBury cX3_tryBury 3 (some .boolean) ∈ BIG := big_in (tb3 (List.mem_of_getElem? (i := 75) rfl)) rfl
theorem bk_618 : Cond.methodLink RX7 314 yX3_tryFlush ∈ BIG := big_in (tb3 (List.mem_of_getElem? (i := 76) rfl)) rfl
theorem bk_619 : Cond.instanceMethod yX3_tryFlush ∈ BIG := big_in (tb3 (List.mem_of_getElem? (i := 77) rfl)) rfl
theorem bk_620 : Cond.selects RX3 yX3_tryFlush yX3_tryFlush ∈ BIG := big_in (tb3 (List.mem_of_getElem? (i := 78) rfl)) rfl
theorem bk_621 : Cond.code yX3_tryFlush cX3_tryFlush 1 (some .boolean) ∈ BIG := big_in (tb3 (List.mem_of_getElem? (i := 79) rfl)) rfl
theorem bk_622 : Cond.methodLink RX3 148 yX3_canFlush ∈ BIG := big_in (tb3 (List.mem_of_getElem? (i := 80) rfl)) rfl
theorem bk_623 : Cond.instanceMethod yX3_canFlush ∈ BIG := big_in (tb3 (List.mem_of_getElem? (i := 81) rfl)) rfl
theorem bk_624 : Cond.selects RX3 yX3_canFlush yX3_canFlush ∈ BIG := big_in (tb3 (List.mem_of_getElem? (i := 82) rfl)) rfl
theorem bk_625 : Cond.code yX3_canFlush cX3_canFlush 1 (some .boolean) ∈ BIG := big_in (tb3 (List.mem_of_getElem? (i := 83) rfl)) rfl
theorem bk_626 : Cond.methodLink RX3 151 yX3_flushMemory ∈ BIG := big_in (tb3 (List.mem_of_getElem? (i := 84) rfl)) rfl
theorem bk_627 : Cond.methodLink RX7 317 yX3_tryMerge ∈ BIG := big_in (tb3 (List.mem_of_getElem? (i := 85) rfl)) rfl
theorem bk_628 : Cond.instanceMethod yX3_tryMerge ∈ BIG := big_in (tb3 (List.mem_of_getElem? (i := 86) rfl)) rfl
theorem bk_629 : Cond.selects RX3 yX3_tryMerge yX3_tryMerge ∈ BIG := big_in (tb3 (List.mem_of_getElem? (i := 87) rfl)) rfl
theorem bk_630 : Cond.code yX3_tryMerge cX3_tryMerge 2 (some .boolean) ∈ BIG := big_in (tb3 (List.mem_of_getElem? (i := 88) rfl)) rfl
theorem bk_631 : Cond.methodLink RX3 154 yX3_canMerge ∈ BIG := big_in (tb3 (List.mem_of_getElem? (i := 89) rfl)) rfl
theorem bk_632 : Cond.methodLink RX3 157 yX3_mergeRuns ∈ BIG := big_in (tb3 (List.mem_of_getElem? (i := 90) rfl)) rfl
theorem bk_633 : Cond.methodLink RX7 320 yX3_tryOpen ∈ BIG := big_in (tb3 (List.mem_of_getElem? (i := 91) rfl)) rfl
theorem bk_634 : Cond.instanceMethod yX3_tryOpen ∈ BIG := big_in (tb3 (List.mem_of_getElem? (i := 92) rfl)) rfl
theorem bk_635 : Cond.selects RX3 yX3_tryOpen yX3_tryOpen ∈ BIG := big_in (tb3 (List.mem_of_getElem? (i := 93) rfl)) rfl
theorem bk_636 : Cond.code yX3_tryOpen cX3_tryOpen 1 (some .boolean) ∈ BIG := big_in (tb3 (List.mem_of_getElem? (i := 94) rfl)) rfl
theorem bk_637 : Cond.methodLink RX3 139 yX3_canOpen ∈ BIG := big_in (tb3 (List.mem_of_getElem? (i := 95) rfl)) rfl
theorem bk_638 : Cond.instanceMethod yX3_canOpen ∈ BIG := big_in (tb3 (List.mem_of_getElem? (i := 96) rfl)) rfl
theorem bk_639 : Cond.selects RX3 yX3_canOpen yX3_canOpen ∈ BIG := big_in (tb3 (List.mem_of_getElem? (i := 97) rfl)) rfl
theorem bk_640 : Cond.code yX3_canOpen cX3_canOpen 1 (some .boolean) ∈ BIG := big_in (tb3 (List.mem_of_getElem? (i := 98) rfl)) rfl
theorem bk_641 : Cond.methodLink RX3 142 yX3_addEye ∈ BIG := big_in (tb3 (List.mem_of_getElem? (i := 99) rfl)) rfl
theorem bk_642 : Cond.instanceMethod yX3_addEye ∈ BIG := big_in (tb3 (List.mem_of_getElem? (i := 100) rfl)) rfl
theorem bk_643 : Cond.selects RX3 yX3_addEye yX3_addEye ∈ BIG := big_in (tb3 (List.mem_of_getElem? (i := 101) rfl)) rfl
theorem bk_644 : Cond.code yX3_addEye cX3_addEye 1 none ∈ BIG := big_in (tb3 (List.mem_of_getElem? (i := 102) rfl)) rfl
theorem bk_645 : Cond.methodLink RX7 323 yX3_tryClose ∈ BIG := big_in (tb3 (List.mem_of_getElem? (i := 103) rfl)) rfl
theorem bk_646 : Cond.instanceMethod yX3_tryClose ∈ BIG := big_in (tb3 (List.mem_of_getElem? (i := 104) rfl)) rfl
theorem bk_647 : Cond.selects RX3 yX3_tryClose yX3_tryClose ∈ BIG := big_in (tb3 (List.mem_of_getElem? (i := 105) rfl)) rfl
theorem bk_648 : Cond.code yX3_tryClose cX3_tryClose 2 (some .boolean) ∈ BIG := big_in (tb3 (List.mem_of_getElem? (i := 106) rfl)) rfl
theorem bk_649 : Cond.methodLink RX3 145 yX3_dropEye ∈ BIG := big_in (tb3 (List.mem_of_getElem? (i := 107) rfl)) rfl
theorem bk_650 : Cond.instanceMethod yX3_dropEye ∈ BIG := big_in (tb3 (List.mem_of_getElem? (i := 108) rfl)) rfl
theorem bk_651 : Cond.selects RX3 yX3_dropEye yX3_dropEye ∈ BIG := big_in (tb3 (List.mem_of_getElem? (i := 109) rfl)) rfl
theorem bk_652 : Cond.code yX3_dropEye cX3_dropEye 3 none ∈ BIG := big_in (tb3 (List.mem_of_getElem? (i := 110) rfl)) rfl
theorem bk_653 : Cond.methodLink RL 115 yL_about ∈ BIG := big_in (tb3 (List.mem_of_getElem? (i := 111) rfl)) rfl
theorem bk_654 : Cond.static yL_about ∈ BIG := big_in (tb3 (List.mem_of_getElem? (i := 112) rfl)) rfl
theorem bk_655 : Cond.codeWith yL_about cL_about 4 (some .int) [(0, 9, 12, 13)] ∈ BIG := big_in (tb3 (List.mem_of_getElem? (i := 113) rfl)) rfl
theorem bk_656 : Cond.methodLink RL 21 yX7_about ∈ BIG := big_in (tb3 (List.mem_of_getElem? (i := 114) rfl)) rfl
theorem bk_657 : Cond.instanceMethod yX7_about ∈ BIG := big_in (tb3 (List.mem_of_getElem? (i := 115) rfl)) rfl
theorem bk_658 : Cond.selects RX7 yX7_about yX7_about ∈ BIG := big_in (tb3 (List.mem_of_getElem? (i := 116) rfl)) rfl
theorem bk_659 : Cond.code yX7_about cX7_about 2 (some .int) ∈ BIG := big_in (tb3 (List.mem_of_getElem? (i := 117) rfl)) rfl
theorem bk_660 : Cond.methodLink RX7 98 yX3_latest ∈ BIG := big_in (tb3 (List.mem_of_getElem? (i := 118) rfl)) rfl
theorem bk_661 : Cond.instanceMethod yX3_latest ∈ BIG := big_in (tb3 (List.mem_of_getElem? (i := 119) rfl)) rfl
theorem bk_662 : Cond.selects RX3 yX3_latest yX3_latest ∈ BIG := big_in (tb3 (List.mem_of_getElem? (i := 120) rfl)) rfl
theorem bk_663 : Cond.code yX3_latest cX3_latest 1 (some .int) ∈ BIG := big_in (tb3 (List.mem_of_getElem? (i := 121) rfl)) rfl
theorem bk_664 : Cond.methodLink RX7 108 yX3_eyes ∈ BIG := big_in (tb3 (List.mem_of_getElem? (i := 122) rfl)) rfl
theorem bk_665 : Cond.instanceMethod yX3_eyes ∈ BIG := big_in (tb3 (List.mem_of_getElem? (i := 123) rfl)) rfl
theorem bk_666 : Cond.selects RX3 yX3_eyes yX3_eyes ∈ BIG := big_in (tb3 (List.mem_of_getElem? (i := 124) rfl)) rfl
theorem bk_667 : Cond.code yX3_eyes cX3_eyes 1 (some .int) ∈ BIG := big_in (tb3 (List.mem_of_getElem? (i := 125) rfl)) rfl
theorem bk_668 : Cond.methodLink RX7 114 yX3_entriesIn ∈ BIG := big_in (tb3 (List.mem_of_getElem? (i := 126) rfl)) rfl
theorem bk_669 : Cond.instanceMethod yX3_entriesIn ∈ BIG := big_in (tb3 (List.mem_of_getElem? (i := 127) rfl)) rfl
theorem bk_670 : Cond.selects RX3 yX3_entriesIn yX3_entriesIn ∈ BIG := big_in (tb3 (List.mem_of_getElem? (i := 128) rfl)) rfl
theorem bk_671 : Cond.code yX3_entriesIn cX3_entriesIn 5 (some .int) ∈ BIG := big_in (tb3 (List.mem_of_getElem? (i := 129) rfl)) rfl
theorem bk_672 : Cond.methodLink RX3 72 yX6_isEntry ∈ BIG := big_in (tb3 (List.mem_of_getElem? (i := 130) rfl)) rfl
theorem bk_673 : Cond.methodLink RX7 118 yX7_seenNow ∈ BIG := big_in (tb3 (List.mem_of_getElem? (i := 131) rfl)) rfl
theorem bk_675 : Cond.instanceMethod yX7_seenNow ∈ BIG := big_in (tb3 (List.mem_of_getElem? (i := 133) rfl)) rfl
theorem bk_676 : Cond.code yX7_seenNow cX7_seenNow 2 (some .int) ∈ BIG := big_in (tb3 (List.mem_of_getElem? (i := 134) rfl)) rfl
theorem bk_677 : Cond.methodLink RX7 122 yX5_look ∈ BIG := big_in (tb3 (List.mem_of_getElem? (i := 135) rfl)) rfl
theorem bk_678 : Cond.instanceMethod yX5_look ∈ BIG := big_in (tb3 (List.mem_of_getElem? (i := 136) rfl)) rfl
theorem bk_679 : Cond.selects RX5 yX5_look yX5_look ∈ BIG := big_in (tb3 (List.mem_of_getElem? (i := 137) rfl)) rfl
theorem bk_680 : Cond.code yX5_look cX5_look 6 none ∈ BIG := big_in (tb3 (List.mem_of_getElem? (i := 138) rfl)) rfl
theorem bk_681 : Cond.methodLink RX5 15 yJ7_fill_53178 ∈ BIG := big_in (tb3 (List.mem_of_getElem? (i := 139) rfl)) rfl
theorem bk_682 : Cond.static yJ7_fill_53178 ∈ BIG := big_in (tb3 (List.mem_of_getElem? (i := 140) rfl)) rfl
theorem bk_683 : Cond.code yJ7_fill_53178 cJ7_fill_53178 4 none ∈ BIG := big_in (tb3 (List.mem_of_getElem? (i := 141) rfl)) rfl
theorem bk_684 : Cond.methodLink RX5 27 yX6_size ∈ BIG := big_in (tb3 (List.mem_of_getElem? (i := 142) rfl)) rfl
theorem bk_685 : Cond.methodLink RX5 33 yX6_numberAt ∈ BIG := big_in (tb3 (List.mem_of_getElem? (i := 143) rfl)) rfl
theorem bk_686 : Cond.methodLink RX5 37 yX6_firstAt ∈ BIG := big_in (tb3 (List.mem_of_getElem? (i := 144) rfl)) rfl
theorem bk_687 : Cond.methodLink RX5 40 yJ9_max_7cf53 ∈ BIG := big_in (tb3 (List.mem_of_getElem? (i := 145) rfl)) rfl
theorem bk_688 : Cond.methodLink RX5 46 yX6_lastAt ∈ BIG := big_in (tb3 (List.mem_of_getElem? (i := 146) rfl)) rfl
theorem bk_689 : Cond.methodLink RX5 49 yX6_valueAt ∈ BIG := big_in (tb3 (List.mem_of_getElem? (i := 147) rfl)) rfl
theorem bk_690 : Cond.methodLink RX7 212 yX5_seenIn ∈ BIG := big_in (tb3 (List.mem_of_getElem? (i := 148) rfl)) rfl
theorem bk_691 : Cond.instanceMethod yX5_seenIn ∈ BIG := big_in (tb3 (List.mem_of_getElem? (i := 149) rfl)) rfl
theorem bk_692 : Cond.selects RX5 yX5_seenIn yX5_seenIn ∈ BIG := big_in (tb3 (List.mem_of_getElem? (i := 150) rfl)) rfl
theorem bk_693 : Cond.code yX5_seenIn cX5_seenIn 5 (some .int) ∈ BIG := big_in (tb3 (List.mem_of_getElem? (i := 151) rfl)) rfl
theorem bk_694 : Cond.methodLink RX7 126 yX5_sum ∈ BIG := big_in (tb3 (List.mem_of_getElem? (i := 152) rfl)) rfl
theorem bk_695 : Cond.instanceMethod yX5_sum ∈ BIG := big_in (tb3 (List.mem_of_getElem? (i := 153) rfl)) rfl
theorem bk_696 : Cond.selects RX5 yX5_sum yX5_sum ∈ BIG := big_in (tb3 (List.mem_of_getElem? (i := 154) rfl)) rfl
theorem bk_697 : Cond.code yX5_sum cX5_sum 3 (some .int) ∈ BIG := big_in (tb3 (List.mem_of_getElem? (i := 155) rfl)) rfl
theorem bk_698 : Cond.methodLink RX7 129 yX3_fewer ∈ BIG := big_in (tb3 (List.mem_of_getElem? (i := 156) rfl)) rfl
theorem bk_699 : Cond.instanceMethod yX3_fewer ∈ BIG := big_in (tb3 (List.mem_of_getElem? (i := 157) rfl)) rfl
theorem bk_700 : Cond.selects RX3 yX3_fewer yX3_fewer ∈ BIG := big_in (tb3 (List.mem_of_getElem? (i := 158) rfl)) rfl
theorem bk_701 : Cond.code yX3_fewer cX3_fewer 1 (some .int) ∈ BIG := big_in (tb3 (List.mem_of_getElem? (i := 159) rfl)) rfl
theorem bk_703 : Cond.methodLink RL 118 yL_get ∈ BIG := big_in (tb3 (List.mem_of_getElem? (i := 161) rfl)) rfl
theorem bk_704 : Cond.static yL_get ∈ BIG := big_in (tb3 (List.mem_of_getElem? (i := 162) rfl)) rfl
theorem bk_705 : Cond.codeWith yL_get cL_get 5 (some .int) [(0, 10, 13, 28)] ∈ BIG := big_in (tb3 (List.mem_of_getElem? (i := 163) rfl)) rfl
theorem bk_706 : Cond.classLink RL 28 "java/lang/IndexOutOfBoundsException" ∈ BIG := big_in (tb3 (List.mem_of_getElem? (i := 164) rfl)) rfl
theorem bk_707 : Cond.methodLink RL 24 yX7_get ∈ BIG := big_in (tb3 (List.mem_of_getElem? (i := 165) rfl)) rfl
theorem bk_708 : Cond.instanceMethod yX7_get ∈ BIG := big_in (tb3 (List.mem_of_getElem? (i := 166) rfl)) rfl
theorem bk_709 : Cond.selects RX7 yX7_get yX7_get ∈ BIG := big_in (tb3 (List.mem_of_getElem? (i := 167) rfl)) rfl
theorem bk_710 : Cond.code yX7_get cX7_get 4 (some .int) ∈ BIG := big_in (tb3 (List.mem_of_getElem? (i := 168) rfl)) rfl
theorem bk_711 : Cond.methodLink RX7 134 yX7_isKey ∈ BIG := big_in (tb3 (List.mem_of_getElem? (i := 169) rfl)) rfl
theorem bk_712 : Cond.methodLink RX7 137 yX3_isView ∈ BIG := big_in (tb3 (List.mem_of_getElem? (i := 170) rfl)) rfl
theorem bk_713 : Cond.instanceMethod yX3_isView ∈ BIG := big_in (tb3 (List.mem_of_getElem? (i := 171) rfl)) rfl
theorem bk_714 : Cond.selects RX3 yX3_isView yX3_isView ∈ BIG := big_in (tb3 (List.mem_of_getElem? (i := 172) rfl)) rfl
theorem bk_715 : Cond.code yX3_isView cX3_isView 2 (some .boolean) ∈ BIG := big_in (tb3 (List.mem_of_getElem? (i := 173) rfl)) rfl
theorem bk_716 : Cond.classLink RX7 140 "java/lang/IndexOutOfBoundsException" ∈ BIG := big_in (tb3 (List.mem_of_getElem? (i := 174) rfl)) rfl
theorem bk_732 : Cond.methodLink RX7 145 yX3_limitOf ∈ BIG := big_in (tb3 (List.mem_of_getElem? (i := 190) rfl)) rfl
theorem bk_733 : Cond.methodLink RX7 148 yX3_valueFor ∈ BIG := big_in (tb3 (List.mem_of_getElem? (i := 191) rfl)) rfl
theorem bk_734 : Cond.instanceMethod yX3_valueFor ∈ BIG := big_in (tb3 (List.mem_of_getElem? (i := 192) rfl)) rfl
theorem bk_735 : Cond.selects RX3 yX3_valueFor yX3_valueFor ∈ BIG := big_in (tb3 (List.mem_of_getElem? (i := 193) rfl)) rfl
theorem bk_736 : Cond.code yX3_valueFor cX3_valueFor 3 (some .int) ∈ BIG := big_in (tb3 (List.mem_of_getElem? (i := 194) rfl)) rfl
theorem bk_737 : Cond.methodLink RX3 103 yX6_valueAt ∈ BIG := big_in (tb3 (List.mem_of_getElem? (i := 195) rfl)) rfl
theorem bk_738 : Cond.methodLink RL 122 yL_run ∈ BIG := big_in (tb3 (List.mem_of_getElem? (i := 196) rfl)) rfl
theorem bk_739 : Cond.static yL_run ∈ BIG := big_in (tb3 (List.mem_of_getElem? (i := 197) rfl)) rfl
theorem bk_740 : Cond.codeWith yL_run cL_run 5 (some .int) [(0, 10, 13, 28), (0, 10, 17, 13)] ∈ BIG := big_in (tb3 (List.mem_of_getElem? (i := 198) rfl)) rfl
theorem bk_741 : Cond.methodLink RL 30 yX7_run ∈ BIG := big_in (tb3 (List.mem_of_getElem? (i := 199) rfl)) rfl
theorem bk_742 : Cond.instanceMethod yX7_run ∈ BIG := big_in (tb3 (List.mem_of_getElem? (i := 200) rfl)) rfl
theorem bk_743 : Cond.selects RX7 yX7_run yX7_run ∈ BIG := big_in (tb3 (List.mem_of_getElem? (i := 201) rfl)) rfl
theorem bk_744 : Cond.code yX7_run cX7_run 3 (some .int) ∈ BIG := big_in (tb3 (List.mem_of_getElem? (i := 202) rfl)) rfl
theorem bk_745 : Cond.methodLink RX7 151 yX3_isPlace ∈ BIG := big_in (tb3 (List.mem_of_getElem? (i := 203) rfl)) rfl
theorem bk_746 : Cond.instanceMethod yX3_isPlace ∈ BIG := big_in (tb3 (List.mem_of_getElem? (i := 204) rfl)) rfl
theorem bk_747 : Cond.selects RX3 yX3_isPlace yX3_isPlace ∈ BIG := big_in (tb3 (List.mem_of_getElem? (i := 205) rfl)) rfl
theorem bk_748 : Cond.code yX3_isPlace cX3_isPlace 2 (some .boolean) ∈ BIG := big_in (tb3 (List.mem_of_getElem? (i := 206) rfl)) rfl
theorem bk_750 : Cond.methodLink RX7 156 yX3_startOf ∈ BIG := big_in (tb3 (List.mem_of_getElem? (i := 208) rfl)) rfl
theorem bk_751 : Cond.methodLink RX7 159 yX3_endOf ∈ BIG := big_in (tb3 (List.mem_of_getElem? (i := 209) rfl)) rfl
theorem bk_752 : Cond.methodLink RX7 166 yX6_numberAt ∈ BIG := big_in (tb3 (List.mem_of_getElem? (i := 210) rfl)) rfl
theorem bk_753 : Cond.methodLink RX7 171 yX3_keysIn ∈ BIG := big_in (tb3 (List.mem_of_getElem? (i := 211) rfl)) rfl
theorem bk_754 : Cond.instanceMethod yX3_keysIn ∈ BIG := big_in (tb3 (List.mem_of_getElem? (i := 212) rfl)) rfl
theorem bk_755 : Cond.selects RX3 yX3_keysIn yX3_keysIn ∈ BIG := big_in (tb3 (List.mem_of_getElem? (i := 213) rfl)) rfl
theorem bk_756 : Cond.code yX3_keysIn cX3_keysIn 4 (some .int) ∈ BIG := big_in (tb3 (List.mem_of_getElem? (i := 214) rfl)) rfl
theorem bk_757 : Cond.classLink RX3 75 RX2 ∈ BIG := big_in (tb3 (List.mem_of_getElem? (i := 215) rfl)) rfl
theorem bk_759 : Cond.methodLink RX3 81 yX6_lastAt ∈ BIG := big_in (tb3 (List.mem_of_getElem? (i := 217) rfl)) rfl
theorem bk_760 : Cond.methodLink RX3 84 yX2_addRow ∈ BIG := big_in (tb3 (List.mem_of_getElem? (i := 218) rfl)) rfl
theorem bk_761 : Cond.methodLink RX3 88 yX2_size ∈ BIG := big_in (tb3 (List.mem_of_getElem? (i := 219) rfl)) rfl
theorem bk_762 : Cond.instanceMethod yX2_size ∈ BIG := big_in (tb3 (List.mem_of_getElem? (i := 220) rfl)) rfl
theorem bk_763 : Cond.selects RX2 yX2_size yX2_size ∈ BIG := big_in (tb3 (List.mem_of_getElem? (i := 221) rfl)) rfl
theorem bk_764 : Cond.code yX2_size cX2_size 1 (some .int) ∈ BIG := big_in (tb3 (List.mem_of_getElem? (i := 222) rfl)) rfl
theorem bk_765 : Cond.methodLink RX2 29 yJ13_bitCount_95d88 ∈ BIG := big_in (tb3 (List.mem_of_getElem? (i := 223) rfl)) rfl
theorem bk_766 : Cond.static yJ13_bitCount_95d88 ∈ BIG := big_in (tb3 (List.mem_of_getElem? (i := 224) rfl)) rfl
theorem bk_767 : Cond.code yJ13_bitCount_95d88 cJ13_bitCount_95d88 2 (some .int) ∈ BIG := big_in (tb3 (List.mem_of_getElem? (i := 225) rfl)) rfl
theorem bk_768 : Cond.constantLong RJ13 314 (6148914691236517205) ∈ BIG := big_in (tb3 (List.mem_of_getElem? (i := 226) rfl)) rfl
theorem bk_769 : Cond.constantLong RJ13 316 (3689348814741910323) ∈ BIG := big_in (tb3 (List.mem_of_getElem? (i := 227) rfl)) rfl
theorem bk_770 : Cond.constantLong RJ13 318 (1085102592571150095) ∈ BIG := big_in (tb3 (List.mem_of_getElem? (i := 228) rfl)) rfl
theorem bk_772 : Cond.methodLink RL 125 yL_write ∈ BIG := big_in (tb3 (List.mem_of_getElem? (i := 230) rfl)) rfl
theorem bk_773 : Cond.static yL_write ∈ BIG := big_in (tb3 (List.mem_of_getElem? (i := 231) rfl)) rfl
theorem bk_774 : Cond.codeWith yL_write cL_write 6 (some .int) [(0, 12, 15, 28), (0, 12, 19, 13)] ∈ BIG := big_in (tb3 (List.mem_of_getElem? (i := 232) rfl)) rfl
theorem bk_775 : Cond.methodLink RL 33 yX7_write ∈ BIG := big_in (tb3 (List.mem_of_getElem? (i := 233) rfl)) rfl
theorem bk_776 : Cond.instanceMethod yX7_write ∈ BIG := big_in (tb3 (List.mem_of_getElem? (i := 234) rfl)) rfl
theorem bk_777 : Cond.selects RX7 yX7_write yX7_write ∈ BIG := big_in (tb3 (List.mem_of_getElem? (i := 235) rfl)) rfl
theorem bk_778 : Cond.code yX7_write cX7_write 5 (some .int) ∈ BIG := big_in (tb3 (List.mem_of_getElem? (i := 236) rfl)) rfl
theorem bk_780 : Cond.methodLink RX7 178 yX6_firstAt ∈ BIG := big_in (tb3 (List.mem_of_getElem? (i := 238) rfl)) rfl
theorem bk_781 : Cond.methodLink RX7 181 yX6_lastAt ∈ BIG := big_in (tb3 (List.mem_of_getElem? (i := 239) rfl)) rfl
theorem bk_782 : Cond.methodLink RX7 184 yX6_valueAt ∈ BIG := big_in (tb4 (List.mem_of_getElem? (i := 0) rfl)) rfl
theorem bk_783 : Cond.methodLink RL 129 yL_eye ∈ BIG := big_in (tb4 (List.mem_of_getElem? (i := 1) rfl)) rfl
theorem bk_784 : Cond.static yL_eye ∈ BIG := big_in (tb4 (List.mem_of_getElem? (i := 2) rfl)) rfl
theorem bk_785 : Cond.codeWith yL_eye cL_eye 4 (some .int) [(0, 9, 12, 28)] ∈ BIG := big_in (tb4 (List.mem_of_getElem? (i := 3) rfl)) rfl
theorem bk_786 : Cond.methodLink RL 37 yX7_eye ∈ BIG := big_in (tb4 (List.mem_of_getElem? (i := 4) rfl)) rfl
theorem bk_787 : Cond.instanceMethod yX7_eye ∈ BIG := big_in (tb4 (List.mem_of_getElem? (i := 5) rfl)) rfl
theorem bk_788 : Cond.selects RX7 yX7_eye yX7_eye ∈ BIG := big_in (tb4 (List.mem_of_getElem? (i := 6) rfl)) rfl
theorem bk_789 : Cond.code yX7_eye cX7_eye 2 (some .int) ∈ BIG := big_in (tb4 (List.mem_of_getElem? (i := 7) rfl)) rfl
theorem bk_790 : Cond.methodLink RX7 187 yX3_isEye ∈ BIG := big_in (tb4 (List.mem_of_getElem? (i := 8) rfl)) rfl
theorem bk_792 : Cond.methodLink RL 132 yL_put ∈ BIG := big_in (tb4 (List.mem_of_getElem? (i := 10) rfl)) rfl
theorem bk_793 : Cond.static yL_put ∈ BIG := big_in (tb4 (List.mem_of_getElem? (i := 11) rfl)) rfl
theorem bk_794 : Cond.codeWith yL_put cL_put 5 (some .int) [(0, 10, 13, 28), (0, 10, 17, 13), (0, 10, 21, 15)] ∈ BIG := big_in (tb4 (List.mem_of_getElem? (i := 12) rfl)) rfl
theorem bk_795 : Cond.methodLink RL 40 yX7_put ∈ BIG := big_in (tb4 (List.mem_of_getElem? (i := 13) rfl)) rfl
theorem bk_796 : Cond.instanceMethod yX7_put ∈ BIG := big_in (tb4 (List.mem_of_getElem? (i := 14) rfl)) rfl
theorem bk_797 : Cond.selects RX7 yX7_put yX7_put ∈ BIG := big_in (tb4 (List.mem_of_getElem? (i := 15) rfl)) rfl
theorem bk_798 : Cond.code yX7_put cX7_put 3 (some .int) ∈ BIG := big_in (tb4 (List.mem_of_getElem? (i := 16) rfl)) rfl
theorem bk_800 : Cond.methodLink RX7 194 yX7_isValue ∈ BIG := big_in (tb4 (List.mem_of_getElem? (i := 18) rfl)) rfl
theorem bk_802 : Cond.methodLink RX7 199 yX3_isFull ∈ BIG := big_in (tb4 (List.mem_of_getElem? (i := 20) rfl)) rfl
theorem bk_804 : Cond.methodLink RX7 202 yX1_remember ∈ BIG := big_in (tb4 (List.mem_of_getElem? (i := 22) rfl)) rfl
theorem bk_805 : Cond.instanceMethod yX1_remember ∈ BIG := big_in (tb4 (List.mem_of_getElem? (i := 23) rfl)) rfl
theorem bk_806 : Cond.selects RX1 yX1_remember yX1_remember ∈ BIG := big_in (tb4 (List.mem_of_getElem? (i := 24) rfl)) rfl
theorem bk_807 : Cond.code yX1_remember cX1_remember 2 none ∈ BIG := big_in (tb4 (List.mem_of_getElem? (i := 25) rfl)) rfl
theorem bk_808 : Cond.methodLink RX1 27 yX3_become ∈ BIG := big_in (tb4 (List.mem_of_getElem? (i := 26) rfl)) rfl
theorem bk_809 : Cond.methodLink RX7 206 yX3_addWrite ∈ BIG := big_in (tb4 (List.mem_of_getElem? (i := 27) rfl)) rfl
theorem bk_810 : Cond.methodLink RL 135 yL_bury ∈ BIG := big_in (tb4 (List.mem_of_getElem? (i := 28) rfl)) rfl
theorem bk_811 : Cond.static yL_bury ∈ BIG := big_in (tb4 (List.mem_of_getElem? (i := 29) rfl)) rfl
theorem bk_812 : Cond.codeWith yL_bury cL_bury 5 (some .int) [(0, 10, 13, 28), (0, 10, 17, 13), (0, 10, 21, 15)] ∈ BIG := big_in (tb4 (List.mem_of_getElem? (i := 30) rfl)) rfl
theorem bk_813 : Cond.methodLink RL 43 yX7_bury ∈ BIG := big_in (tb4 (List.mem_of_getElem? (i := 31) rfl)) rfl
theorem bk_814 : Cond.instanceMethod yX7_bury ∈ BIG := big_in (tb4 (List.mem_of_getElem? (i := 32) rfl)) rfl
theorem bk_815 : Cond.selects RX7 yX7_bury yX7_bury ∈ BIG := big_in (tb4 (List.mem_of_getElem? (i := 33) rfl)) rfl
theorem bk_816 : Cond.code yX7_bury cX7_bury 3 (some .int) ∈ BIG := big_in (tb4 (List.mem_of_getElem? (i := 34) rfl)) rfl
theorem bk_818 : Cond.methodLink RL 138 yL_open ∈ BIG := big_in (tb4 (List.mem_of_getElem? (i := 36) rfl)) rfl
theorem bk_819 : Cond.static yL_open ∈ BIG := big_in (tb4 (List.mem_of_getElem? (i := 37) rfl)) rfl
theorem bk_820 : Cond.codeWith yL_open cL_open 3 (some .int) [(0, 8, 11, 15)] ∈ BIG := big_in (tb4 (List.mem_of_getElem? (i := 38) rfl)) rfl
theorem bk_821 : Cond.methodLink RL 46 yX7_open ∈ BIG := big_in (tb4 (List.mem_of_getElem? (i := 39) rfl)) rfl
theorem bk_822 : Cond.instanceMethod yX7_open ∈ BIG := big_in (tb4 (List.mem_of_getElem? (i := 40) rfl)) rfl
theorem bk_823 : Cond.selects RX7 yX7_open yX7_open ∈ BIG := big_in (tb4 (List.mem_of_getElem? (i := 41) rfl)) rfl
theorem bk_824 : Cond.code yX7_open cX7_open 1 (some .int) ∈ BIG := big_in (tb4 (List.mem_of_getElem? (i := 42) rfl)) rfl
theorem bk_825 : Cond.methodLink RX7 215 yX3_canOpen ∈ BIG := big_in (tb4 (List.mem_of_getElem? (i := 43) rfl)) rfl
theorem bk_827 : Cond.methodLink RX7 220 yX3_addEye ∈ BIG := big_in (tb4 (List.mem_of_getElem? (i := 45) rfl)) rfl
theorem bk_828 : Cond.methodLink RL 141 yL_close ∈ BIG := big_in (tb4 (List.mem_of_getElem? (i := 46) rfl)) rfl
theorem bk_829 : Cond.static yL_close ∈ BIG := big_in (tb4 (List.mem_of_getElem? (i := 47) rfl)) rfl
theorem bk_830 : Cond.codeWith yL_close cL_close 4 (some .int) [(0, 9, 12, 28)] ∈ BIG := big_in (tb4 (List.mem_of_getElem? (i := 48) rfl)) rfl
theorem bk_831 : Cond.methodLink RL 49 yX7_close ∈ BIG := big_in (tb4 (List.mem_of_getElem? (i := 49) rfl)) rfl
theorem bk_832 : Cond.instanceMethod yX7_close ∈ BIG := big_in (tb4 (List.mem_of_getElem? (i := 50) rfl)) rfl
theorem bk_833 : Cond.selects RX7 yX7_close yX7_close ∈ BIG := big_in (tb4 (List.mem_of_getElem? (i := 51) rfl)) rfl
theorem bk_834 : Cond.code yX7_close cX7_close 2 (some .int) ∈ BIG := big_in (tb4 (List.mem_of_getElem? (i := 52) rfl)) rfl
theorem bk_835 : Cond.methodLink RX7 223 yX3_dropEye ∈ BIG := big_in (tb4 (List.mem_of_getElem? (i := 53) rfl)) rfl
theorem bk_836 : Cond.methodLink RL 144 yL_flush ∈ BIG := big_in (tb4 (List.mem_of_getElem? (i := 54) rfl)) rfl
theorem bk_837 : Cond.static yL_flush ∈ BIG := big_in (tb4 (List.mem_of_getElem? (i := 55) rfl)) rfl
theorem bk_838 : Cond.codeWith yL_flush cL_flush 3 (some .int) [(0, 8, 11, 15)] ∈ BIG := big_in (tb4 (List.mem_of_getElem? (i := 56) rfl)) rfl
theorem bk_839 : Cond.methodLink RL 52 yX7_flush ∈ BIG := big_in (tb4 (List.mem_of_getElem? (i := 57) rfl)) rfl
theorem bk_840 : Cond.instanceMethod yX7_flush ∈ BIG := big_in (tb4 (List.mem_of_getElem? (i := 58) rfl)) rfl
theorem bk_841 : Cond.selects RX7 yX7_flush yX7_flush ∈ BIG := big_in (tb4 (List.mem_of_getElem? (i := 59) rfl)) rfl
theorem bk_842 : Cond.code yX7_flush cX7_flush 1 (some .int) ∈ BIG := big_in (tb4 (List.mem_of_getElem? (i := 60) rfl)) rfl
theorem bk_843 : Cond.methodLink RX7 226 yX3_canFlush ∈ BIG := big_in (tb4 (List.mem_of_getElem? (i := 61) rfl)) rfl
theorem bk_845 : Cond.methodLink RL 147 yL_merge ∈ BIG := big_in (tb4 (List.mem_of_getElem? (i := 63) rfl)) rfl
theorem bk_846 : Cond.static yL_merge ∈ BIG := big_in (tb4 (List.mem_of_getElem? (i := 64) rfl)) rfl
theorem bk_847 : Cond.codeWith yL_merge cL_merge 4 (some .int) [(0, 9, 12, 28), (0, 9, 15, 15)] ∈ BIG := big_in (tb4 (List.mem_of_getElem? (i := 65) rfl)) rfl
theorem bk_848 : Cond.methodLink RL 55 yX7_merge ∈ BIG := big_in (tb4 (List.mem_of_getElem? (i := 66) rfl)) rfl
theorem bk_849 : Cond.instanceMethod yX7_merge ∈ BIG := big_in (tb4 (List.mem_of_getElem? (i := 67) rfl)) rfl
theorem bk_850 : Cond.selects RX7 yX7_merge yX7_merge ∈ BIG := big_in (tb4 (List.mem_of_getElem? (i := 68) rfl)) rfl
theorem bk_851 : Cond.code yX7_merge cX7_merge 2 (some .int) ∈ BIG := big_in (tb4 (List.mem_of_getElem? (i := 69) rfl)) rfl
theorem bk_852 : Cond.methodLink RX7 234 yX3_isRun ∈ BIG := big_in (tb4 (List.mem_of_getElem? (i := 70) rfl)) rfl
theorem bk_854 : Cond.methodLink RL 150 yL_undo ∈ BIG := big_in (tb4 (List.mem_of_getElem? (i := 72) rfl)) rfl
theorem bk_855 : Cond.static yL_undo ∈ BIG := big_in (tb4 (List.mem_of_getElem? (i := 73) rfl)) rfl
theorem bk_856 : Cond.codeWith yL_undo cL_undo 3 (some .int) [(0, 8, 11, 15)] ∈ BIG := big_in (tb4 (List.mem_of_getElem? (i := 74) rfl)) rfl
theorem bk_857 : Cond.methodLink RL 58 yX7_undo ∈ BIG := big_in (tb4 (List.mem_of_getElem? (i := 75) rfl)) rfl
theorem bk_858 : Cond.instanceMethod yX7_undo ∈ BIG := big_in (tb4 (List.mem_of_getElem? (i := 76) rfl)) rfl
theorem bk_859 : Cond.selects RX7 yX7_undo yX7_undo ∈ BIG := big_in (tb4 (List.mem_of_getElem? (i := 77) rfl)) rfl
theorem bk_860 : Cond.code yX7_undo cX7_undo 1 (some .int) ∈ BIG := big_in (tb4 (List.mem_of_getElem? (i := 78) rfl)) rfl
theorem bk_861 : Cond.methodLink RX7 245 yX1_size ∈ BIG := big_in (tb4 (List.mem_of_getElem? (i := 79) rfl)) rfl
theorem bk_862 : Cond.instanceMethod yX1_size ∈ BIG := big_in (tb4 (List.mem_of_getElem? (i := 80) rfl)) rfl
theorem bk_863 : Cond.selects RX1 yX1_size yX1_size ∈ BIG := big_in (tb4 (List.mem_of_getElem? (i := 81) rfl)) rfl
theorem bk_864 : Cond.code yX1_size cX1_size 1 (some .int) ∈ BIG := big_in (tb4 (List.mem_of_getElem? (i := 82) rfl)) rfl
theorem bk_866 : Cond.methodLink RX7 248 yX1_takeBack ∈ BIG := big_in (tb4 (List.mem_of_getElem? (i := 84) rfl)) rfl
theorem bk_867 : Cond.instanceMethod yX1_takeBack ∈ BIG := big_in (tb4 (List.mem_of_getElem? (i := 85) rfl)) rfl
theorem bk_868 : Cond.selects RX1 yX1_takeBack yX1_takeBack ∈ BIG := big_in (tb4 (List.mem_of_getElem? (i := 86) rfl)) rfl
theorem bk_869 : Cond.code yX1_takeBack cX1_takeBack 2 none ∈ BIG := big_in (tb4 (List.mem_of_getElem? (i := 87) rfl)) rfl
theorem bk_870 : Cond.methodLink RL 153 yL_looks ∈ BIG := big_in (tb4 (List.mem_of_getElem? (i := 88) rfl)) rfl
theorem bk_871 : Cond.static yL_looks ∈ BIG := big_in (tb4 (List.mem_of_getElem? (i := 89) rfl)) rfl
theorem bk_872 : Cond.codeWith yL_looks cL_looks 4 (some .int) [(0, 9, 12, 28)] ∈ BIG := big_in (tb4 (List.mem_of_getElem? (i := 90) rfl)) rfl
theorem bk_873 : Cond.methodLink RL 61 yX7_looks ∈ BIG := big_in (tb4 (List.mem_of_getElem? (i := 91) rfl)) rfl
theorem bk_874 : Cond.instanceMethod yX7_looks ∈ BIG := big_in (tb4 (List.mem_of_getElem? (i := 92) rfl)) rfl
theorem bk_875 : Cond.selects RX7 yX7_looks yX7_looks ∈ BIG := big_in (tb4 (List.mem_of_getElem? (i := 93) rfl)) rfl
theorem bk_876 : Cond.code yX7_looks cX7_looks 5 (some .int) ∈ BIG := big_in (tb4 (List.mem_of_getElem? (i := 94) rfl)) rfl
theorem bk_877 : Cond.methodLink RX7 251 yX3_newestFor ∈ BIG := big_in (tb4 (List.mem_of_getElem? (i := 95) rfl)) rfl
theorem bk_878 : Cond.methodLink RL 156 yL_next ∈ BIG := big_in (tb4 (List.mem_of_getElem? (i := 96) rfl)) rfl
theorem bk_879 : Cond.static yL_next ∈ BIG := big_in (tb4 (List.mem_of_getElem? (i := 97) rfl)) rfl
theorem bk_880 : Cond.codeWith yL_next cL_next 5 (some .int) [(0, 10, 13, 28)] ∈ BIG := big_in (tb4 (List.mem_of_getElem? (i := 98) rfl)) rfl
theorem bk_881 : Cond.methodLink RL 64 yX7_next ∈ BIG := big_in (tb4 (List.mem_of_getElem? (i := 99) rfl)) rfl
theorem bk_882 : Cond.instanceMethod yX7_next ∈ BIG := big_in (tb4 (List.mem_of_getElem? (i := 100) rfl)) rfl
theorem bk_883 : Cond.selects RX7 yX7_next yX7_next ∈ BIG := big_in (tb4 (List.mem_of_getElem? (i := 101) rfl)) rfl
theorem bk_884 : Cond.code yX7_next cX7_next 3 (some .int) ∈ BIG := big_in (tb4 (List.mem_of_getElem? (i := 102) rfl)) rfl
theorem bk_885 : Cond.methodLink RX7 254 yX5_firstSeen ∈ BIG := big_in (tb4 (List.mem_of_getElem? (i := 103) rfl)) rfl
theorem bk_886 : Cond.instanceMethod yX5_firstSeen ∈ BIG := big_in (tb4 (List.mem_of_getElem? (i := 104) rfl)) rfl
theorem bk_887 : Cond.selects RX5 yX5_firstSeen yX5_firstSeen ∈ BIG := big_in (tb4 (List.mem_of_getElem? (i := 105) rfl)) rfl
theorem bk_888 : Cond.code yX5_firstSeen cX5_firstSeen 3 (some .int) ∈ BIG := big_in (tb4 (List.mem_of_getElem? (i := 106) rfl)) rfl
theorem bk_889 : Cond.methodLink RL 159 yL_count ∈ BIG := big_in (tb4 (List.mem_of_getElem? (i := 107) rfl)) rfl
theorem bk_890 : Cond.static yL_count ∈ BIG := big_in (tb4 (List.mem_of_getElem? (i := 108) rfl)) rfl
theorem bk_891 : Cond.codeWith yL_count cL_count 6 (some .int) [(0, 12, 15, 28), (0, 12, 19, 13)] ∈ BIG := big_in (tb4 (List.mem_of_getElem? (i := 109) rfl)) rfl
theorem bk_892 : Cond.methodLink RL 67 yX7_count ∈ BIG := big_in (tb4 (List.mem_of_getElem? (i := 110) rfl)) rfl
theorem bk_893 : Cond.instanceMethod yX7_count ∈ BIG := big_in (tb4 (List.mem_of_getElem? (i := 111) rfl)) rfl
theorem bk_894 : Cond.selects RX7 yX7_count yX7_count ∈ BIG := big_in (tb4 (List.mem_of_getElem? (i := 112) rfl)) rfl
theorem bk_895 : Cond.code yX7_count cX7_count 4 (some .int) ∈ BIG := big_in (tb4 (List.mem_of_getElem? (i := 113) rfl)) rfl
theorem bk_896 : Cond.methodLink RL 166 yL_grave ∈ BIG := big_in (tb4 (List.mem_of_getElem? (i := 114) rfl)) rfl
theorem bk_897 : Cond.static yL_grave ∈ BIG := big_in (tb4 (List.mem_of_getElem? (i := 115) rfl)) rfl
theorem bk_898 : Cond.codeWith yL_grave cL_grave 4 (some .int) [(0, 9, 12, 28)] ∈ BIG := big_in (tb4 (List.mem_of_getElem? (i := 116) rfl)) rfl
theorem bk_899 : Cond.methodLink RL 70 yX7_grave ∈ BIG := big_in (tb4 (List.mem_of_getElem? (i := 117) rfl)) rfl
theorem bk_900 : Cond.instanceMethod yX7_grave ∈ BIG := big_in (tb4 (List.mem_of_getElem? (i := 118) rfl)) rfl
theorem bk_901 : Cond.selects RX7 yX7_grave yX7_grave ∈ BIG := big_in (tb4 (List.mem_of_getElem? (i := 119) rfl)) rfl
theorem bk_902 : Cond.code yX7_grave cX7_grave 3 (some .int) ∈ BIG := big_in (tb4 (List.mem_of_getElem? (i := 120) rfl)) rfl
theorem bk_903 : Cond.methodLink RX7 263 yX6_concerns ∈ BIG := big_in (tb4 (List.mem_of_getElem? (i := 121) rfl)) rfl
theorem bk_904 : Cond.methodLink RL 169 yL_saves ∈ BIG := big_in (tb4 (List.mem_of_getElem? (i := 122) rfl)) rfl
theorem bk_905 : Cond.static yL_saves ∈ BIG := big_in (tb4 (List.mem_of_getElem? (i := 123) rfl)) rfl
theorem bk_906 : Cond.codeWith yL_saves cL_saves 4 (some .int) [(0, 9, 12, 28), (0, 9, 15, 15)] ∈ BIG := big_in (tb4 (List.mem_of_getElem? (i := 124) rfl)) rfl
theorem bk_907 : Cond.methodLink RL 73 yX7_saves ∈ BIG := big_in (tb4 (List.mem_of_getElem? (i := 125) rfl)) rfl
theorem bk_908 : Cond.instanceMethod yX7_saves ∈ BIG := big_in (tb4 (List.mem_of_getElem? (i := 126) rfl)) rfl
theorem bk_909 : Cond.selects RX7 yX7_saves yX7_saves ∈ BIG := big_in (tb4 (List.mem_of_getElem? (i := 127) rfl)) rfl
theorem bk_910 : Cond.code yX7_saves cX7_saves 2 (some .int) ∈ BIG := big_in (tb4 (List.mem_of_getElem? (i := 128) rfl)) rfl
theorem bk_911 : Cond.methodLink RL 182 yL_runScript ∈ BIG := big_in (tb4 (List.mem_of_getElem? (i := 129) rfl)) rfl
theorem bk_912 : Cond.static yL_runScript ∈ BIG := big_in (tb4 (List.mem_of_getElem? (i := 130) rfl)) rfl
theorem bk_913 : Cond.codeWith yL_runScript cL_runScript 6 (some .int) [(0, 11, 14, 13)] ∈ BIG := big_in (tb4 (List.mem_of_getElem? (i := 131) rfl)) rfl
theorem bk_914 : Cond.methodLink RL 76 yX7_runScript ∈ BIG := big_in (tb4 (List.mem_of_getElem? (i := 132) rfl)) rfl
theorem bk_915 : Cond.instanceMethod yX7_runScript ∈ BIG := big_in (tb4 (List.mem_of_getElem? (i := 133) rfl)) rfl
theorem bk_916 : Cond.selects RX7 yX7_runScript yX7_runScript ∈ BIG := big_in (tb4 (List.mem_of_getElem? (i := 134) rfl)) rfl
theorem bk_917 : Cond.code yX7_runScript cX7_runScript 6 (some .int) ∈ BIG := big_in (tb4 (List.mem_of_getElem? (i := 135) rfl)) rfl
theorem bk_919 : Cond.methodLink RX7 278 yX7_withoutLast ∈ BIG := big_in (tb4 (List.mem_of_getElem? (i := 137) rfl)) rfl
theorem bk_920 : Cond.static yX7_withoutLast ∈ BIG := big_in (tb4 (List.mem_of_getElem? (i := 138) rfl)) rfl
theorem bk_921 : Cond.code yX7_withoutLast cX7_withoutLast 6 (some .long) ∈ BIG := big_in (tb4 (List.mem_of_getElem? (i := 139) rfl)) rfl
theorem bk_922 : Cond.constantLong RX7 284 (100000) ∈ BIG := big_in (tb4 (List.mem_of_getElem? (i := 140) rfl)) rfl
theorem bk_924 : Cond.methodLink RX7 286 yX7_doGroup ∈ BIG := big_in (tb4 (List.mem_of_getElem? (i := 142) rfl)) rfl
theorem bk_926 : Cond.instanceMethod yX7_doGroup ∈ BIG := big_in (tb4 (List.mem_of_getElem? (i := 144) rfl)) rfl
theorem bk_927 : Cond.code yX7_doGroup cX7_doGroup 6 (some .boolean) ∈ BIG := big_in (tb4 (List.mem_of_getElem? (i := 145) rfl)) rfl
theorem bk_928 : Cond.methodLink RL 186 yL_simulate ∈ BIG := big_in (tb4 (List.mem_of_getElem? (i := 146) rfl)) rfl
theorem bk_929 : Cond.static yL_simulate ∈ BIG := big_in (tb4 (List.mem_of_getElem? (i := 147) rfl)) rfl
theorem bk_930 : Cond.codeWith yL_simulate cL_simulate 6 (some .int) [(0, 11, 14, 13)] ∈ BIG := big_in (tb4 (List.mem_of_getElem? (i := 148) rfl)) rfl
theorem bk_931 : Cond.methodLink RL 80 yX7_simulate ∈ BIG := big_in (tb4 (List.mem_of_getElem? (i := 149) rfl)) rfl
theorem bk_932 : Cond.instanceMethod yX7_simulate ∈ BIG := big_in (tb4 (List.mem_of_getElem? (i := 150) rfl)) rfl
theorem bk_933 : Cond.selects RX7 yX7_simulate yX7_simulate ∈ BIG := big_in (tb4 (List.mem_of_getElem? (i := 151) rfl)) rfl
theorem bk_934 : Cond.code yX7_simulate cX7_simulate 7 (some .int) ∈ BIG := big_in (tb4 (List.mem_of_getElem? (i := 152) rfl)) rfl
theorem bk_936 : Cond.constantLong RX7 291 (6364136223846793005) ∈ BIG := big_in (tb4 (List.mem_of_getElem? (i := 154) rfl)) rfl
theorem bk_937 : Cond.constantLong RX7 293 (1442695040888963407) ∈ BIG := big_in (tb4 (List.mem_of_getElem? (i := 155) rfl)) rfl
theorem bk_938 : Cond.methodLink RX7 295 yX7_doTurn ∈ BIG := big_in (tb4 (List.mem_of_getElem? (i := 156) rfl)) rfl
theorem bk_940 : Cond.instanceMethod yX7_doTurn ∈ BIG := big_in (tb4 (List.mem_of_getElem? (i := 158) rfl)) rfl
theorem bk_941 : Cond.code yX7_doTurn cX7_doTurn 4 none ∈ BIG := big_in (tb4 (List.mem_of_getElem? (i := 159) rfl)) rfl
theorem bk_942 : Cond.methodLink RX7 326 yJ9_min_7cf53 ∈ BIG := big_in (tb4 (List.mem_of_getElem? (i := 160) rfl)) rfl
theorem bk_943 : Cond.methodLink RL 190 yL_save ∈ BIG := big_in (tb4 (List.mem_of_getElem? (i := 161) rfl)) rfl
theorem bk_944 : Cond.static yL_save ∈ BIG := big_in (tb4 (List.mem_of_getElem? (i := 162) rfl)) rfl
theorem bk_945 : Cond.codeWith yL_save cL_save 4 (some .int) [(0, 9, 12, 28)] ∈ BIG := big_in (tb4 (List.mem_of_getElem? (i := 163) rfl)) rfl
theorem bk_946 : Cond.methodLink RL 84 yX7_save ∈ BIG := big_in (tb4 (List.mem_of_getElem? (i := 164) rfl)) rfl
theorem bk_947 : Cond.instanceMethod yX7_save ∈ BIG := big_in (tb4 (List.mem_of_getElem? (i := 165) rfl)) rfl
theorem bk_948 : Cond.selects RX7 yX7_save yX7_save ∈ BIG := big_in (tb4 (List.mem_of_getElem? (i := 166) rfl)) rfl
theorem bk_949 : Cond.code yX7_save cX7_save 2 (some .int) ∈ BIG := big_in (tb4 (List.mem_of_getElem? (i := 167) rfl)) rfl
theorem bk_951 : Cond.methodLink RL 193 yL_restore ∈ BIG := big_in (tb4 (List.mem_of_getElem? (i := 169) rfl)) rfl
theorem bk_952 : Cond.static yL_restore ∈ BIG := big_in (tb4 (List.mem_of_getElem? (i := 170) rfl)) rfl
theorem bk_953 : Cond.codeWith yL_restore cL_restore 4 (some .int) [(0, 9, 12, 28), (0, 9, 15, 15)] ∈ BIG := big_in (tb4 (List.mem_of_getElem? (i := 171) rfl)) rfl
theorem bk_954 : Cond.methodLink RL 87 yX7_restore ∈ BIG := big_in (tb4 (List.mem_of_getElem? (i := 172) rfl)) rfl
theorem bk_955 : Cond.instanceMethod yX7_restore ∈ BIG := big_in (tb4 (List.mem_of_getElem? (i := 173) rfl)) rfl
theorem bk_956 : Cond.selects RX7 yX7_restore yX7_restore ∈ BIG := big_in (tb4 (List.mem_of_getElem? (i := 174) rfl)) rfl
theorem bk_957 : Cond.code yX7_restore cX7_restore 2 (some .int) ∈ BIG := big_in (tb4 (List.mem_of_getElem? (i := 175) rfl)) rfl
theorem bk_959 : Cond.classLink RL 91 RX8 ∈ BIG := big_in (tb4 (List.mem_of_getElem? (i := 177) rfl)) rfl
theorem bk_960 : Cond.instantiable RX8 17 ∈ BIG := big_in (tb4 (List.mem_of_getElem? (i := 178) rfl)) rfl
theorem bk_961 : Cond.methodLink RL 93 yX8_init ∈ BIG := big_in (tb4 (List.mem_of_getElem? (i := 179) rfl)) rfl
theorem bk_962 : Cond.instanceMethod yX8_init ∈ BIG := big_in (tb4 (List.mem_of_getElem? (i := 180) rfl)) rfl
theorem bk_963 : Cond.code yX8_init cX8_init 1 none ∈ BIG := big_in (tb4 (List.mem_of_getElem? (i := 181) rfl)) rfl
theorem bk_964 : Cond.methodLink RX8 1 objectInit ∈ BIG := big_in (tb4 (List.mem_of_getElem? (i := 182) rfl)) rfl
theorem bk_965 : Cond.fieldLink RX8 35 RX8 "thrown" "I" ∈ BIG := big_in (tb4 (List.mem_of_getElem? (i := 183) rfl)) rfl
theorem bk_966 : Cond.fieldLink RX8 7 RX8 "s" "[I" ∈ BIG := big_in (tb4 (List.mem_of_getElem? (i := 184) rfl)) rfl
theorem bk_967 : Cond.fieldLink RX8 13 RX8 "aside" "[I" ∈ BIG := big_in (tb4 (List.mem_of_getElem? (i := 185) rfl)) rfl
theorem bk_968 : Cond.fieldLink RX8 16 RX8 "saved" "[I" ∈ BIG := big_in (tb4 (List.mem_of_getElem? (i := 186) rfl)) rfl
theorem bk_969 : Cond.fieldLink RX8 43 RX8 "savedMany" "I" ∈ BIG := big_in (tb4 (List.mem_of_getElem? (i := 187) rfl)) rfl
theorem bk_970 : Cond.fieldLink RX8 19 RX8 "slots" "[I" ∈ BIG := big_in (tb4 (List.mem_of_getElem? (i := 188) rfl)) rfl
theorem bk_971 : Cond.fieldLink RX8 22 RX8 "isSaved" "[Z" ∈ BIG := big_in (tb4 (List.mem_of_getElem? (i := 189) rfl)) rfl
theorem bk_972 : Cond.fieldLink RX8 26 RX8 "text" "[I" ∈ BIG := big_in (tb4 (List.mem_of_getElem? (i := 190) rfl)) rfl
theorem bk_973 : Cond.fieldLink RX8 121 RX8 "length" "I" ∈ BIG := big_in (tb4 (List.mem_of_getElem? (i := 191) rfl)) rfl
theorem bk_974 : Cond.fieldLink RX8 29 RX8 "left" "[I" ∈ BIG := big_in (tb4 (List.mem_of_getElem? (i := 192) rfl)) rfl
theorem bk_975 : Cond.fieldLink RX8 78 RX8 "leftMany" "I" ∈ BIG := big_in (tb4 (List.mem_of_getElem? (i := 193) rfl)) rfl
theorem bk_976 : Cond.fieldLink RX8 32 RX8 "isDropped" "[Z" ∈ BIG := big_in (tb4 (List.mem_of_getElem? (i := 194) rfl)) rfl
theorem bk_977 : Cond.fieldLink RX8 127 RX8 "at" "I" ∈ BIG := big_in (tb4 (List.mem_of_getElem? (i := 195) rfl)) rfl
theorem bk_978 : Cond.fieldLink RX8 130 RX8 "isWrong" "Z" ∈ BIG := big_in (tb4 (List.mem_of_getElem? (i := 196) rfl)) rfl
theorem bk_979 : Cond.fieldLink RX8 137 RX8 "letter" "I" ∈ BIG := big_in (tb4 (List.mem_of_getElem? (i := 197) rfl)) rfl
theorem bk_980 : Cond.fieldLink RX8 143 RX8 "one" "I" ∈ BIG := big_in (tb4 (List.mem_of_getElem? (i := 198) rfl)) rfl
theorem bk_981 : Cond.fieldLink RX8 146 RX8 "two" "I" ∈ BIG := big_in (tb4 (List.mem_of_getElem? (i := 199) rfl)) rfl
theorem bk_1017 : Cond.methodLink RL 100 yX8_thrown ∈ BIG := big_in (tb4 (List.mem_of_getElem? (i := 235) rfl)) rfl
theorem bk_1018 : Cond.instanceMethod yX8_thrown ∈ BIG := big_in (tb4 (List.mem_of_getElem? (i := 236) rfl)) rfl
theorem bk_1019 : Cond.selects RX8 yX8_thrown yX8_thrown ∈ BIG := big_in (tb4 (List.mem_of_getElem? (i := 237) rfl)) rfl
theorem bk_1020 : Cond.code yX8_thrown cX8_thrown 1 (some .int) ∈ BIG := big_in (tb4 (List.mem_of_getElem? (i := 238) rfl)) rfl
theorem bk_1021 : Cond.methodLink RL 99 yX8_append ∈ BIG := big_in (tb4 (List.mem_of_getElem? (i := 239) rfl)) rfl
theorem bk_1022 : Cond.instanceMethod yX8_append ∈ BIG := big_in (tb5 (List.mem_of_getElem? (i := 0) rfl)) rfl
theorem bk_1023 : Cond.selects RX8 yX8_append yX8_append ∈ BIG := big_in (tb5 (List.mem_of_getElem? (i := 1) rfl)) rfl
theorem bk_1024 : Cond.code yX8_append cX8_append 2 (some .int) ∈ BIG := big_in (tb5 (List.mem_of_getElem? (i := 2) rfl)) rfl
theorem bk_1025 : Cond.methodLink RX8 39 yX8_in ∈ BIG := big_in (tb5 (List.mem_of_getElem? (i := 3) rfl)) rfl
theorem bk_1026 : Cond.static yX8_in ∈ BIG := big_in (tb5 (List.mem_of_getElem? (i := 4) rfl)) rfl
theorem bk_1027 : Cond.code yX8_in cX8_in 3 (some .boolean) ∈ BIG := big_in (tb5 (List.mem_of_getElem? (i := 5) rfl)) rfl
theorem bk_1028 : Cond.methodLink RX8 124 yX8_holds ∈ BIG := big_in (tb5 (List.mem_of_getElem? (i := 6) rfl)) rfl
theorem bk_1030 : Cond.instanceMethod yX8_holds ∈ BIG := big_in (tb5 (List.mem_of_getElem? (i := 8) rfl)) rfl
theorem bk_1031 : Cond.code yX8_holds cX8_holds 2 (some .boolean) ∈ BIG := big_in (tb5 (List.mem_of_getElem? (i := 9) rfl)) rfl
theorem bk_1032 : Cond.methodLink RL 106 yX8_clearText ∈ BIG := big_in (tb5 (List.mem_of_getElem? (i := 10) rfl)) rfl
theorem bk_1033 : Cond.instanceMethod yX8_clearText ∈ BIG := big_in (tb5 (List.mem_of_getElem? (i := 11) rfl)) rfl
theorem bk_1034 : Cond.selects RX8 yX8_clearText yX8_clearText ∈ BIG := big_in (tb5 (List.mem_of_getElem? (i := 12) rfl)) rfl
theorem bk_1035 : Cond.code yX8_clearText cX8_clearText 2 (some .int) ∈ BIG := big_in (tb5 (List.mem_of_getElem? (i := 13) rfl)) rfl
theorem bk_1036 : Cond.methodLink RL 110 yX8_errorPosition ∈ BIG := big_in (tb5 (List.mem_of_getElem? (i := 14) rfl)) rfl
theorem bk_1037 : Cond.instanceMethod yX8_errorPosition ∈ BIG := big_in (tb5 (List.mem_of_getElem? (i := 15) rfl)) rfl
theorem bk_1038 : Cond.selects RX8 yX8_errorPosition yX8_errorPosition ∈ BIG := big_in (tb5 (List.mem_of_getElem? (i := 16) rfl)) rfl
theorem bk_1039 : Cond.code yX8_errorPosition cX8_errorPosition 2 (some .int) ∈ BIG := big_in (tb5 (List.mem_of_getElem? (i := 17) rfl)) rfl
theorem bk_1040 : Cond.methodLink RX8 186 yX8_go ∈ BIG := big_in (tb5 (List.mem_of_getElem? (i := 18) rfl)) rfl
theorem bk_1042 : Cond.instanceMethod yX8_go ∈ BIG := big_in (tb5 (List.mem_of_getElem? (i := 20) rfl)) rfl
theorem bk_1043 : Cond.code yX8_go cX8_go 4 (some .int) ∈ BIG := big_in (tb5 (List.mem_of_getElem? (i := 21) rfl)) rfl
theorem bk_1044 : Cond.methodLink RX8 134 yX8_sign ∈ BIG := big_in (tb5 (List.mem_of_getElem? (i := 22) rfl)) rfl
theorem bk_1046 : Cond.instanceMethod yX8_sign ∈ BIG := big_in (tb5 (List.mem_of_getElem? (i := 24) rfl)) rfl
theorem bk_1047 : Cond.code yX8_sign cX8_sign 4 (some .int) ∈ BIG := big_in (tb5 (List.mem_of_getElem? (i := 25) rfl)) rfl
theorem bk_1048 : Cond.methodLink RX8 179 yX8_command ∈ BIG := big_in (tb5 (List.mem_of_getElem? (i := 26) rfl)) rfl
theorem bk_1050 : Cond.instanceMethod yX8_command ∈ BIG := big_in (tb5 (List.mem_of_getElem? (i := 28) rfl)) rfl
theorem bk_1051 : Cond.code yX8_command cX8_command 2 none ∈ BIG := big_in (tb5 (List.mem_of_getElem? (i := 29) rfl)) rfl
theorem bk_1052 : Cond.methodLink RX8 140 yX8_key ∈ BIG := big_in (tb5 (List.mem_of_getElem? (i := 30) rfl)) rfl
theorem bk_1054 : Cond.instanceMethod yX8_key ∈ BIG := big_in (tb5 (List.mem_of_getElem? (i := 32) rfl)) rfl
theorem bk_1055 : Cond.code yX8_key cX8_key 2 (some .int) ∈ BIG := big_in (tb5 (List.mem_of_getElem? (i := 33) rfl)) rfl
theorem bk_1056 : Cond.methodLink RX8 182 yX8_does ∈ BIG := big_in (tb5 (List.mem_of_getElem? (i := 34) rfl)) rfl
theorem bk_1058 : Cond.instanceMethod yX8_does ∈ BIG := big_in (tb5 (List.mem_of_getElem? (i := 36) rfl)) rfl
theorem bk_1059 : Cond.code yX8_does cX8_does 4 (some .boolean) ∈ BIG := big_in (tb5 (List.mem_of_getElem? (i := 37) rfl)) rfl
theorem bk_1060 : Cond.methodLink RX8 149 yX8_putFault ∈ BIG := big_in (tb5 (List.mem_of_getElem? (i := 38) rfl)) rfl
theorem bk_1062 : Cond.instanceMethod yX8_putFault ∈ BIG := big_in (tb5 (List.mem_of_getElem? (i := 40) rfl)) rfl
theorem bk_1063 : Cond.code yX8_putFault cX8_putFault 3 (some .int) ∈ BIG := big_in (tb5 (List.mem_of_getElem? (i := 41) rfl)) rfl
theorem bk_1064 : Cond.methodLink RX8 97 yX8_isKey ∈ BIG := big_in (tb5 (List.mem_of_getElem? (i := 42) rfl)) rfl
theorem bk_1065 : Cond.static yX8_isKey ∈ BIG := big_in (tb5 (List.mem_of_getElem? (i := 43) rfl)) rfl
theorem bk_1066 : Cond.code yX8_isKey cX8_isKey 1 (some .boolean) ∈ BIG := big_in (tb5 (List.mem_of_getElem? (i := 44) rfl)) rfl
theorem bk_1067 : Cond.methodLink RX8 54 yX8_all ∈ BIG := big_in (tb5 (List.mem_of_getElem? (i := 45) rfl)) rfl
theorem bk_1069 : Cond.instanceMethod yX8_all ∈ BIG := big_in (tb5 (List.mem_of_getElem? (i := 47) rfl)) rfl
theorem bk_1070 : Cond.code yX8_all cX8_all 1 (some .int) ∈ BIG := big_in (tb5 (List.mem_of_getElem? (i := 48) rfl)) rfl
theorem bk_1071 : Cond.methodLink RX8 46 yX8_begin ∈ BIG := big_in (tb5 (List.mem_of_getElem? (i := 49) rfl)) rfl
theorem bk_1073 : Cond.instanceMethod yX8_begin ∈ BIG := big_in (tb5 (List.mem_of_getElem? (i := 51) rfl)) rfl
theorem bk_1074 : Cond.code yX8_begin cX8_begin 4 (some .int) ∈ BIG := big_in (tb5 (List.mem_of_getElem? (i := 52) rfl)) rfl
theorem bk_1075 : Cond.methodLink RX8 152 yX8_buryFault ∈ BIG := big_in (tb5 (List.mem_of_getElem? (i := 53) rfl)) rfl
theorem bk_1077 : Cond.instanceMethod yX8_buryFault ∈ BIG := big_in (tb5 (List.mem_of_getElem? (i := 55) rfl)) rfl
theorem bk_1078 : Cond.code yX8_buryFault cX8_buryFault 3 (some .int) ∈ BIG := big_in (tb5 (List.mem_of_getElem? (i := 56) rfl)) rfl
theorem bk_1079 : Cond.methodLink RX8 155 yX8_flushFault ∈ BIG := big_in (tb5 (List.mem_of_getElem? (i := 57) rfl)) rfl
theorem bk_1081 : Cond.instanceMethod yX8_flushFault ∈ BIG := big_in (tb5 (List.mem_of_getElem? (i := 59) rfl)) rfl
theorem bk_1082 : Cond.code yX8_flushFault cX8_flushFault 1 (some .int) ∈ BIG := big_in (tb5 (List.mem_of_getElem? (i := 60) rfl)) rfl
theorem bk_1083 : Cond.methodLink RX8 107 yX8_clean ∈ BIG := big_in (tb5 (List.mem_of_getElem? (i := 61) rfl)) rfl
theorem bk_1085 : Cond.instanceMethod yX8_clean ∈ BIG := big_in (tb5 (List.mem_of_getElem? (i := 63) rfl)) rfl
theorem bk_1086 : Cond.code yX8_clean cX8_clean 5 none ∈ BIG := big_in (tb5 (List.mem_of_getElem? (i := 64) rfl)) rfl
theorem bk_1087 : Cond.methodLink RX8 68 yX8_isEntry ∈ BIG := big_in (tb5 (List.mem_of_getElem? (i := 65) rfl)) rfl
theorem bk_1089 : Cond.instanceMethod yX8_isEntry ∈ BIG := big_in (tb5 (List.mem_of_getElem? (i := 67) rfl)) rfl
theorem bk_1090 : Cond.code yX8_isEntry cX8_isEntry 2 (some .boolean) ∈ BIG := big_in (tb5 (List.mem_of_getElem? (i := 68) rfl)) rfl
theorem bk_1091 : Cond.methodLink RX8 50 yX8_of ∈ BIG := big_in (tb5 (List.mem_of_getElem? (i := 69) rfl)) rfl
theorem bk_1092 : Cond.static yX8_of ∈ BIG := big_in (tb5 (List.mem_of_getElem? (i := 70) rfl)) rfl
theorem bk_1093 : Cond.code yX8_of cX8_of 2 (some .int) ∈ BIG := big_in (tb5 (List.mem_of_getElem? (i := 71) rfl)) rfl
theorem bk_1094 : Cond.methodLink RX8 81 yX8_isCovered ∈ BIG := big_in (tb5 (List.mem_of_getElem? (i := 72) rfl)) rfl
theorem bk_1096 : Cond.instanceMethod yX8_isCovered ∈ BIG := big_in (tb5 (List.mem_of_getElem? (i := 74) rfl)) rfl
theorem bk_1097 : Cond.code yX8_isCovered cX8_isCovered 9 (some .boolean) ∈ BIG := big_in (tb5 (List.mem_of_getElem? (i := 75) rfl)) rfl
theorem bk_1098 : Cond.methodLink RX8 58 yX8_concerns ∈ BIG := big_in (tb5 (List.mem_of_getElem? (i := 76) rfl)) rfl
theorem bk_1100 : Cond.instanceMethod yX8_concerns ∈ BIG := big_in (tb5 (List.mem_of_getElem? (i := 78) rfl)) rfl
theorem bk_1101 : Cond.code yX8_concerns cX8_concerns 3 (some .boolean) ∈ BIG := big_in (tb5 (List.mem_of_getElem? (i := 79) rfl)) rfl
theorem bk_1102 : Cond.methodLink RX8 75 yX8_areParted ∈ BIG := big_in (tb5 (List.mem_of_getElem? (i := 80) rfl)) rfl
theorem bk_1104 : Cond.instanceMethod yX8_areParted ∈ BIG := big_in (tb5 (List.mem_of_getElem? (i := 82) rfl)) rfl
theorem bk_1105 : Cond.code yX8_areParted cX8_areParted 5 (some .boolean) ∈ BIG := big_in (tb5 (List.mem_of_getElem? (i := 83) rfl)) rfl
theorem bk_1106 : Cond.methodLink RX8 85 yX8_leave ∈ BIG := big_in (tb5 (List.mem_of_getElem? (i := 84) rfl)) rfl
theorem bk_1108 : Cond.instanceMethod yX8_leave ∈ BIG := big_in (tb5 (List.mem_of_getElem? (i := 86) rfl)) rfl
theorem bk_1109 : Cond.code yX8_leave cX8_leave 4 none ∈ BIG := big_in (tb5 (List.mem_of_getElem? (i := 87) rfl)) rfl
theorem bk_1110 : Cond.methodLink RX8 89 yX8_cut ∈ BIG := big_in (tb5 (List.mem_of_getElem? (i := 88) rfl)) rfl
theorem bk_1112 : Cond.instanceMethod yX8_cut ∈ BIG := big_in (tb5 (List.mem_of_getElem? (i := 90) rfl)) rfl
theorem bk_1113 : Cond.code yX8_cut cX8_cut 8 none ∈ BIG := big_in (tb5 (List.mem_of_getElem? (i := 91) rfl)) rfl
theorem bk_1114 : Cond.methodLink RX8 93 yX8_hasOlderEntry ∈ BIG := big_in (tb5 (List.mem_of_getElem? (i := 92) rfl)) rfl
theorem bk_1116 : Cond.instanceMethod yX8_hasOlderEntry ∈ BIG := big_in (tb5 (List.mem_of_getElem? (i := 94) rfl)) rfl
theorem bk_1117 : Cond.code yX8_hasOlderEntry cX8_hasOlderEntry 7 (some .boolean) ∈ BIG := big_in (tb5 (List.mem_of_getElem? (i := 95) rfl)) rfl
theorem bk_1118 : Cond.methodLink RX8 111 yX8_isRoomFor ∈ BIG := big_in (tb5 (List.mem_of_getElem? (i := 96) rfl)) rfl
theorem bk_1120 : Cond.instanceMethod yX8_isRoomFor ∈ BIG := big_in (tb5 (List.mem_of_getElem? (i := 98) rfl)) rfl
theorem bk_1121 : Cond.code yX8_isRoomFor cX8_isRoomFor 3 (some .boolean) ∈ BIG := big_in (tb5 (List.mem_of_getElem? (i := 99) rfl)) rfl
theorem bk_1122 : Cond.methodLink RX8 158 yX8_mergeFault ∈ BIG := big_in (tb5 (List.mem_of_getElem? (i := 100) rfl)) rfl
theorem bk_1124 : Cond.instanceMethod yX8_mergeFault ∈ BIG := big_in (tb5 (List.mem_of_getElem? (i := 102) rfl)) rfl
theorem bk_1125 : Cond.code yX8_mergeFault cX8_mergeFault 4 (some .int) ∈ BIG := big_in (tb5 (List.mem_of_getElem? (i := 103) rfl)) rfl
theorem bk_1126 : Cond.methodLink RX8 118 yX8_isRun ∈ BIG := big_in (tb5 (List.mem_of_getElem? (i := 104) rfl)) rfl
theorem bk_1128 : Cond.instanceMethod yX8_isRun ∈ BIG := big_in (tb5 (List.mem_of_getElem? (i := 106) rfl)) rfl
theorem bk_1129 : Cond.code yX8_isRun cX8_isRun 2 (some .boolean) ∈ BIG := big_in (tb5 (List.mem_of_getElem? (i := 107) rfl)) rfl
theorem bk_1130 : Cond.methodLink RX8 161 yX8_isEye ∈ BIG := big_in (tb5 (List.mem_of_getElem? (i := 108) rfl)) rfl
theorem bk_1132 : Cond.instanceMethod yX8_isEye ∈ BIG := big_in (tb5 (List.mem_of_getElem? (i := 110) rfl)) rfl
theorem bk_1133 : Cond.code yX8_isEye cX8_isEye 2 (some .boolean) ∈ BIG := big_in (tb5 (List.mem_of_getElem? (i := 111) rfl)) rfl
theorem bk_1134 : Cond.methodLink RX8 104 yX8_writes ∈ BIG := big_in (tb5 (List.mem_of_getElem? (i := 112) rfl)) rfl
theorem bk_1136 : Cond.instanceMethod yX8_writes ∈ BIG := big_in (tb5 (List.mem_of_getElem? (i := 114) rfl)) rfl
theorem bk_1137 : Cond.code yX8_writes cX8_writes 5 (some .int) ∈ BIG := big_in (tb5 (List.mem_of_getElem? (i := 115) rfl)) rfl
theorem bk_1138 : Cond.methodLink RX8 164 yX8_buries ∈ BIG := big_in (tb5 (List.mem_of_getElem? (i := 116) rfl)) rfl
theorem bk_1140 : Cond.instanceMethod yX8_buries ∈ BIG := big_in (tb5 (List.mem_of_getElem? (i := 118) rfl)) rfl
theorem bk_1141 : Cond.code yX8_buries cX8_buries 5 (some .int) ∈ BIG := big_in (tb5 (List.mem_of_getElem? (i := 119) rfl)) rfl
theorem bk_1142 : Cond.methodLink RX8 100 yX8_countSeen ∈ BIG := big_in (tb5 (List.mem_of_getElem? (i := 120) rfl)) rfl
theorem bk_1144 : Cond.instanceMethod yX8_countSeen ∈ BIG := big_in (tb5 (List.mem_of_getElem? (i := 122) rfl)) rfl
theorem bk_1145 : Cond.code yX8_countSeen cX8_countSeen 6 (some .int) ∈ BIG := big_in (tb5 (List.mem_of_getElem? (i := 123) rfl)) rfl
theorem bk_1146 : Cond.methodLink RX8 72 yX8_seen ∈ BIG := big_in (tb5 (List.mem_of_getElem? (i := 124) rfl)) rfl
theorem bk_1148 : Cond.instanceMethod yX8_seen ∈ BIG := big_in (tb5 (List.mem_of_getElem? (i := 126) rfl)) rfl
theorem bk_1149 : Cond.code yX8_seen cX8_seen 4 (some .int) ∈ BIG := big_in (tb5 (List.mem_of_getElem? (i := 127) rfl)) rfl
theorem bk_1150 : Cond.methodLink RX8 62 yX8_upTo ∈ BIG := big_in (tb5 (List.mem_of_getElem? (i := 128) rfl)) rfl
theorem bk_1152 : Cond.instanceMethod yX8_upTo ∈ BIG := big_in (tb5 (List.mem_of_getElem? (i := 130) rfl)) rfl
theorem bk_1153 : Cond.code yX8_upTo cX8_upTo 2 (some .int) ∈ BIG := big_in (tb5 (List.mem_of_getElem? (i := 131) rfl)) rfl
theorem bk_1154 : Cond.methodLink RX8 65 yX8_newest ∈ BIG := big_in (tb5 (List.mem_of_getElem? (i := 132) rfl)) rfl
theorem bk_1156 : Cond.instanceMethod yX8_newest ∈ BIG := big_in (tb5 (List.mem_of_getElem? (i := 134) rfl)) rfl
theorem bk_1157 : Cond.code yX8_newest cX8_newest 6 (some .int) ∈ BIG := big_in (tb5 (List.mem_of_getElem? (i := 135) rfl)) rfl
theorem bk_1158 : Cond.methodLink RX8 167 yX8_flushes ∈ BIG := big_in (tb5 (List.mem_of_getElem? (i := 136) rfl)) rfl
theorem bk_1160 : Cond.instanceMethod yX8_flushes ∈ BIG := big_in (tb5 (List.mem_of_getElem? (i := 138) rfl)) rfl
theorem bk_1161 : Cond.code yX8_flushes cX8_flushes 2 (some .int) ∈ BIG := big_in (tb5 (List.mem_of_getElem? (i := 139) rfl)) rfl
theorem bk_1162 : Cond.methodLink RX8 114 yX8_replace ∈ BIG := big_in (tb5 (List.mem_of_getElem? (i := 140) rfl)) rfl
theorem bk_1164 : Cond.instanceMethod yX8_replace ∈ BIG := big_in (tb5 (List.mem_of_getElem? (i := 142) rfl)) rfl
theorem bk_1165 : Cond.code yX8_replace cX8_replace 7 none ∈ BIG := big_in (tb5 (List.mem_of_getElem? (i := 143) rfl)) rfl
theorem bk_1166 : Cond.methodLink RX8 170 yX8_merges ∈ BIG := big_in (tb5 (List.mem_of_getElem? (i := 144) rfl)) rfl
theorem bk_1168 : Cond.instanceMethod yX8_merges ∈ BIG := big_in (tb5 (List.mem_of_getElem? (i := 146) rfl)) rfl
theorem bk_1169 : Cond.code yX8_merges cX8_merges 4 (some .int) ∈ BIG := big_in (tb5 (List.mem_of_getElem? (i := 147) rfl)) rfl
theorem bk_1170 : Cond.methodLink RX8 173 yX8_opens ∈ BIG := big_in (tb5 (List.mem_of_getElem? (i := 148) rfl)) rfl
theorem bk_1172 : Cond.instanceMethod yX8_opens ∈ BIG := big_in (tb5 (List.mem_of_getElem? (i := 150) rfl)) rfl
theorem bk_1173 : Cond.code yX8_opens cX8_opens 1 (some .int) ∈ BIG := big_in (tb5 (List.mem_of_getElem? (i := 151) rfl)) rfl
theorem bk_1174 : Cond.methodLink RX8 176 yX8_closes ∈ BIG := big_in (tb5 (List.mem_of_getElem? (i := 152) rfl)) rfl
theorem bk_1176 : Cond.instanceMethod yX8_closes ∈ BIG := big_in (tb5 (List.mem_of_getElem? (i := 154) rfl)) rfl
theorem bk_1177 : Cond.code yX8_closes cX8_closes 2 (some .int) ∈ BIG := big_in (tb5 (List.mem_of_getElem? (i := 155) rfl)) rfl
theorem bk_1178 : Cond.methodLink RL 114 yX8_load ∈ BIG := big_in (tb5 (List.mem_of_getElem? (i := 156) rfl)) rfl
theorem bk_1179 : Cond.instanceMethod yX8_load ∈ BIG := big_in (tb5 (List.mem_of_getElem? (i := 157) rfl)) rfl
theorem bk_1180 : Cond.selects RX8 yX8_load yX8_load ∈ BIG := big_in (tb5 (List.mem_of_getElem? (i := 158) rfl)) rfl
theorem bk_1181 : Cond.code yX8_load cX8_load 3 (some .int) ∈ BIG := big_in (tb5 (List.mem_of_getElem? (i := 159) rfl)) rfl
theorem bk_1182 : Cond.methodLink RL 117 yX8_about ∈ BIG := big_in (tb5 (List.mem_of_getElem? (i := 160) rfl)) rfl
theorem bk_1183 : Cond.instanceMethod yX8_about ∈ BIG := big_in (tb5 (List.mem_of_getElem? (i := 161) rfl)) rfl
theorem bk_1184 : Cond.selects RX8 yX8_about yX8_about ∈ BIG := big_in (tb5 (List.mem_of_getElem? (i := 162) rfl)) rfl
theorem bk_1185 : Cond.code yX8_about cX8_about 2 (some .int) ∈ BIG := big_in (tb5 (List.mem_of_getElem? (i := 163) rfl)) rfl
theorem bk_1186 : Cond.methodLink RX8 197 yX8_told ∈ BIG := big_in (tb5 (List.mem_of_getElem? (i := 164) rfl)) rfl
theorem bk_1188 : Cond.instanceMethod yX8_told ∈ BIG := big_in (tb5 (List.mem_of_getElem? (i := 166) rfl)) rfl
theorem bk_1189 : Cond.code yX8_told cX8_told 2 (some .int) ∈ BIG := big_in (tb5 (List.mem_of_getElem? (i := 167) rfl)) rfl
theorem bk_1190 : Cond.methodLink RX8 190 yX8_kinds ∈ BIG := big_in (tb5 (List.mem_of_getElem? (i := 168) rfl)) rfl
theorem bk_1192 : Cond.instanceMethod yX8_kinds ∈ BIG := big_in (tb5 (List.mem_of_getElem? (i := 170) rfl)) rfl
theorem bk_1193 : Cond.code yX8_kinds cX8_kinds 6 (some .int) ∈ BIG := big_in (tb5 (List.mem_of_getElem? (i := 171) rfl)) rfl
theorem bk_1194 : Cond.methodLink RX8 194 yX8_sumSeen ∈ BIG := big_in (tb5 (List.mem_of_getElem? (i := 172) rfl)) rfl
theorem bk_1196 : Cond.instanceMethod yX8_sumSeen ∈ BIG := big_in (tb5 (List.mem_of_getElem? (i := 174) rfl)) rfl
theorem bk_1197 : Cond.code yX8_sumSeen cX8_sumSeen 4 (some .int) ∈ BIG := big_in (tb5 (List.mem_of_getElem? (i := 175) rfl)) rfl
theorem bk_1198 : Cond.methodLink RL 121 yX8_get ∈ BIG := big_in (tb5 (List.mem_of_getElem? (i := 176) rfl)) rfl
theorem bk_1199 : Cond.instanceMethod yX8_get ∈ BIG := big_in (tb5 (List.mem_of_getElem? (i := 177) rfl)) rfl
theorem bk_1200 : Cond.selects RX8 yX8_get yX8_get ∈ BIG := big_in (tb5 (List.mem_of_getElem? (i := 178) rfl)) rfl
theorem bk_1201 : Cond.code yX8_get cX8_get 3 (some .int) ∈ BIG := big_in (tb5 (List.mem_of_getElem? (i := 179) rfl)) rfl
theorem bk_1202 : Cond.methodLink RX8 200 yX8_isView ∈ BIG := big_in (tb5 (List.mem_of_getElem? (i := 180) rfl)) rfl
theorem bk_1204 : Cond.instanceMethod yX8_isView ∈ BIG := big_in (tb5 (List.mem_of_getElem? (i := 182) rfl)) rfl
theorem bk_1205 : Cond.code yX8_isView cX8_isView 2 (some .boolean) ∈ BIG := big_in (tb5 (List.mem_of_getElem? (i := 183) rfl)) rfl
theorem bk_1206 : Cond.methodLink RL 124 yX8_run ∈ BIG := big_in (tb5 (List.mem_of_getElem? (i := 184) rfl)) rfl
theorem bk_1207 : Cond.instanceMethod yX8_run ∈ BIG := big_in (tb5 (List.mem_of_getElem? (i := 185) rfl)) rfl
theorem bk_1208 : Cond.selects RX8 yX8_run yX8_run ∈ BIG := big_in (tb5 (List.mem_of_getElem? (i := 186) rfl)) rfl
theorem bk_1209 : Cond.code yX8_run cX8_run 3 (some .int) ∈ BIG := big_in (tb5 (List.mem_of_getElem? (i := 187) rfl)) rfl
theorem bk_1210 : Cond.methodLink RX8 209 yX8_ofRun ∈ BIG := big_in (tb5 (List.mem_of_getElem? (i := 188) rfl)) rfl
theorem bk_1212 : Cond.instanceMethod yX8_ofRun ∈ BIG := big_in (tb5 (List.mem_of_getElem? (i := 190) rfl)) rfl
theorem bk_1213 : Cond.code yX8_ofRun cX8_ofRun 5 (some .int) ∈ BIG := big_in (tb5 (List.mem_of_getElem? (i := 191) rfl)) rfl
theorem bk_1214 : Cond.methodLink RX8 203 yX8_manyIn ∈ BIG := big_in (tb5 (List.mem_of_getElem? (i := 192) rfl)) rfl
theorem bk_1216 : Cond.instanceMethod yX8_manyIn ∈ BIG := big_in (tb5 (List.mem_of_getElem? (i := 194) rfl)) rfl
theorem bk_1217 : Cond.code yX8_manyIn cX8_manyIn 2 (some .int) ∈ BIG := big_in (tb5 (List.mem_of_getElem? (i := 195) rfl)) rfl
theorem bk_1218 : Cond.methodLink RX8 206 yX8_keysOf ∈ BIG := big_in (tb5 (List.mem_of_getElem? (i := 196) rfl)) rfl
theorem bk_1220 : Cond.instanceMethod yX8_keysOf ∈ BIG := big_in (tb5 (List.mem_of_getElem? (i := 198) rfl)) rfl
theorem bk_1221 : Cond.code yX8_keysOf cX8_keysOf 7 (some .int) ∈ BIG := big_in (tb5 (List.mem_of_getElem? (i := 199) rfl)) rfl
theorem bk_1222 : Cond.methodLink RL 128 yX8_write ∈ BIG := big_in (tb5 (List.mem_of_getElem? (i := 200) rfl)) rfl
theorem bk_1223 : Cond.instanceMethod yX8_write ∈ BIG := big_in (tb5 (List.mem_of_getElem? (i := 201) rfl)) rfl
theorem bk_1224 : Cond.selects RX8 yX8_write yX8_write ∈ BIG := big_in (tb5 (List.mem_of_getElem? (i := 202) rfl)) rfl
theorem bk_1225 : Cond.code yX8_write cX8_write 5 (some .int) ∈ BIG := big_in (tb5 (List.mem_of_getElem? (i := 203) rfl)) rfl
theorem bk_1226 : Cond.methodLink RL 131 yX8_eye ∈ BIG := big_in (tb5 (List.mem_of_getElem? (i := 204) rfl)) rfl
theorem bk_1227 : Cond.instanceMethod yX8_eye ∈ BIG := big_in (tb5 (List.mem_of_getElem? (i := 205) rfl)) rfl
theorem bk_1228 : Cond.selects RX8 yX8_eye yX8_eye ∈ BIG := big_in (tb5 (List.mem_of_getElem? (i := 206) rfl)) rfl
theorem bk_1229 : Cond.code yX8_eye cX8_eye 2 (some .int) ∈ BIG := big_in (tb5 (List.mem_of_getElem? (i := 207) rfl)) rfl
theorem bk_1230 : Cond.methodLink RL 134 yX8_put ∈ BIG := big_in (tb5 (List.mem_of_getElem? (i := 208) rfl)) rfl
theorem bk_1231 : Cond.instanceMethod yX8_put ∈ BIG := big_in (tb5 (List.mem_of_getElem? (i := 209) rfl)) rfl
theorem bk_1232 : Cond.selects RX8 yX8_put yX8_put ∈ BIG := big_in (tb5 (List.mem_of_getElem? (i := 210) rfl)) rfl
theorem bk_1233 : Cond.code yX8_put cX8_put 3 (some .int) ∈ BIG := big_in (tb5 (List.mem_of_getElem? (i := 211) rfl)) rfl
theorem bk_1234 : Cond.methodLink RX8 212 yX8_remember ∈ BIG := big_in (tb5 (List.mem_of_getElem? (i := 212) rfl)) rfl
theorem bk_1236 : Cond.instanceMethod yX8_remember ∈ BIG := big_in (tb5 (List.mem_of_getElem? (i := 214) rfl)) rfl
theorem bk_1237 : Cond.code yX8_remember cX8_remember 2 none ∈ BIG := big_in (tb5 (List.mem_of_getElem? (i := 215) rfl)) rfl
theorem bk_1238 : Cond.methodLink RL 137 yX8_bury ∈ BIG := big_in (tb5 (List.mem_of_getElem? (i := 216) rfl)) rfl
theorem bk_1239 : Cond.instanceMethod yX8_bury ∈ BIG := big_in (tb5 (List.mem_of_getElem? (i := 217) rfl)) rfl
theorem bk_1240 : Cond.selects RX8 yX8_bury yX8_bury ∈ BIG := big_in (tb5 (List.mem_of_getElem? (i := 218) rfl)) rfl
theorem bk_1241 : Cond.code yX8_bury cX8_bury 3 (some .int) ∈ BIG := big_in (tb5 (List.mem_of_getElem? (i := 219) rfl)) rfl
theorem bk_1242 : Cond.methodLink RL 140 yX8_open ∈ BIG := big_in (tb5 (List.mem_of_getElem? (i := 220) rfl)) rfl
theorem bk_1243 : Cond.instanceMethod yX8_open ∈ BIG := big_in (tb5 (List.mem_of_getElem? (i := 221) rfl)) rfl
theorem bk_1244 : Cond.selects RX8 yX8_open yX8_open ∈ BIG := big_in (tb5 (List.mem_of_getElem? (i := 222) rfl)) rfl
theorem bk_1245 : Cond.code yX8_open cX8_open 1 (some .int) ∈ BIG := big_in (tb5 (List.mem_of_getElem? (i := 223) rfl)) rfl
theorem bk_1246 : Cond.methodLink RL 143 yX8_close ∈ BIG := big_in (tb5 (List.mem_of_getElem? (i := 224) rfl)) rfl
theorem bk_1247 : Cond.instanceMethod yX8_close ∈ BIG := big_in (tb5 (List.mem_of_getElem? (i := 225) rfl)) rfl
theorem bk_1248 : Cond.selects RX8 yX8_close yX8_close ∈ BIG := big_in (tb5 (List.mem_of_getElem? (i := 226) rfl)) rfl
theorem bk_1249 : Cond.code yX8_close cX8_close 2 (some .int) ∈ BIG := big_in (tb5 (List.mem_of_getElem? (i := 227) rfl)) rfl
theorem bk_1250 : Cond.methodLink RL 146 yX8_flush ∈ BIG := big_in (tb5 (List.mem_of_getElem? (i := 228) rfl)) rfl
theorem bk_1251 : Cond.instanceMethod yX8_flush ∈ BIG := big_in (tb5 (List.mem_of_getElem? (i := 229) rfl)) rfl
theorem bk_1252 : Cond.selects RX8 yX8_flush yX8_flush ∈ BIG := big_in (tb5 (List.mem_of_getElem? (i := 230) rfl)) rfl
theorem bk_1253 : Cond.code yX8_flush cX8_flush 1 (some .int) ∈ BIG := big_in (tb5 (List.mem_of_getElem? (i := 231) rfl)) rfl
theorem bk_1254 : Cond.methodLink RL 149 yX8_merge ∈ BIG := big_in (tb5 (List.mem_of_getElem? (i := 232) rfl)) rfl
theorem bk_1255 : Cond.instanceMethod yX8_merge ∈ BIG := big_in (tb5 (List.mem_of_getElem? (i := 233) rfl)) rfl
theorem bk_1256 : Cond.selects RX8 yX8_merge yX8_merge ∈ BIG := big_in (tb5 (List.mem_of_getElem? (i := 234) rfl)) rfl
theorem bk_1257 : Cond.code yX8_merge cX8_merge 2 (some .int) ∈ BIG := big_in (tb5 (List.mem_of_getElem? (i := 235) rfl)) rfl
theorem bk_1258 : Cond.methodLink RL 152 yX8_undo ∈ BIG := big_in (tb5 (List.mem_of_getElem? (i := 236) rfl)) rfl
theorem bk_1259 : Cond.instanceMethod yX8_undo ∈ BIG := big_in (tb5 (List.mem_of_getElem? (i := 237) rfl)) rfl
theorem bk_1260 : Cond.selects RX8 yX8_undo yX8_undo ∈ BIG := big_in (tb5 (List.mem_of_getElem? (i := 238) rfl)) rfl
theorem bk_1261 : Cond.code yX8_undo cX8_undo 2 (some .int) ∈ BIG := big_in (tb5 (List.mem_of_getElem? (i := 239) rfl)) rfl
theorem bk_1262 : Cond.methodLink RL 155 yX8_looks ∈ BIG := big_in (tb6 (List.mem_of_getElem? (i := 0) rfl)) rfl
theorem bk_1263 : Cond.instanceMethod yX8_looks ∈ BIG := big_in (tb6 (List.mem_of_getElem? (i := 1) rfl)) rfl
theorem bk_1264 : Cond.selects RX8 yX8_looks yX8_looks ∈ BIG := big_in (tb6 (List.mem_of_getElem? (i := 2) rfl)) rfl
theorem bk_1265 : Cond.code yX8_looks cX8_looks 2 (some .int) ∈ BIG := big_in (tb6 (List.mem_of_getElem? (i := 3) rfl)) rfl
theorem bk_1266 : Cond.methodLink RX8 218 yX8_lookedAt ∈ BIG := big_in (tb6 (List.mem_of_getElem? (i := 4) rfl)) rfl
theorem bk_1268 : Cond.instanceMethod yX8_lookedAt ∈ BIG := big_in (tb6 (List.mem_of_getElem? (i := 6) rfl)) rfl
theorem bk_1269 : Cond.code yX8_lookedAt cX8_lookedAt 4 (some .int) ∈ BIG := big_in (tb6 (List.mem_of_getElem? (i := 7) rfl)) rfl
theorem bk_1270 : Cond.methodLink RX8 215 yX8_isIn ∈ BIG := big_in (tb6 (List.mem_of_getElem? (i := 8) rfl)) rfl
theorem bk_1272 : Cond.instanceMethod yX8_isIn ∈ BIG := big_in (tb6 (List.mem_of_getElem? (i := 10) rfl)) rfl
theorem bk_1273 : Cond.code yX8_isIn cX8_isIn 5 (some .boolean) ∈ BIG := big_in (tb6 (List.mem_of_getElem? (i := 11) rfl)) rfl
theorem bk_1274 : Cond.methodLink RL 158 yX8_next ∈ BIG := big_in (tb6 (List.mem_of_getElem? (i := 12) rfl)) rfl
theorem bk_1275 : Cond.instanceMethod yX8_next ∈ BIG := big_in (tb6 (List.mem_of_getElem? (i := 13) rfl)) rfl
theorem bk_1276 : Cond.selects RX8 yX8_next yX8_next ∈ BIG := big_in (tb6 (List.mem_of_getElem? (i := 14) rfl)) rfl
theorem bk_1277 : Cond.code yX8_next cX8_next 3 (some .int) ∈ BIG := big_in (tb6 (List.mem_of_getElem? (i := 15) rfl)) rfl
theorem bk_1278 : Cond.methodLink RX8 221 yX8_nextSeen ∈ BIG := big_in (tb6 (List.mem_of_getElem? (i := 16) rfl)) rfl
theorem bk_1280 : Cond.instanceMethod yX8_nextSeen ∈ BIG := big_in (tb6 (List.mem_of_getElem? (i := 18) rfl)) rfl
theorem bk_1281 : Cond.code yX8_nextSeen cX8_nextSeen 4 (some .int) ∈ BIG := big_in (tb6 (List.mem_of_getElem? (i := 19) rfl)) rfl
theorem bk_1282 : Cond.methodLink RL 161 yX8_count ∈ BIG := big_in (tb6 (List.mem_of_getElem? (i := 20) rfl)) rfl
theorem bk_1283 : Cond.instanceMethod yX8_count ∈ BIG := big_in (tb6 (List.mem_of_getElem? (i := 21) rfl)) rfl
theorem bk_1284 : Cond.selects RX8 yX8_count yX8_count ∈ BIG := big_in (tb6 (List.mem_of_getElem? (i := 22) rfl)) rfl
theorem bk_1285 : Cond.code yX8_count cX8_count 5 (some .int) ∈ BIG := big_in (tb6 (List.mem_of_getElem? (i := 23) rfl)) rfl
theorem bk_1286 : Cond.methodLink RL 165 yX8_hidden ∈ BIG := big_in (tb6 (List.mem_of_getElem? (i := 24) rfl)) rfl
theorem bk_1287 : Cond.instanceMethod yX8_hidden ∈ BIG := big_in (tb6 (List.mem_of_getElem? (i := 25) rfl)) rfl
theorem bk_1288 : Cond.selects RX8 yX8_hidden yX8_hidden ∈ BIG := big_in (tb6 (List.mem_of_getElem? (i := 26) rfl)) rfl
theorem bk_1289 : Cond.code yX8_hidden cX8_hidden 5 (some .int) ∈ BIG := big_in (tb6 (List.mem_of_getElem? (i := 27) rfl)) rfl
theorem bk_1290 : Cond.methodLink RL 168 yX8_grave ∈ BIG := big_in (tb6 (List.mem_of_getElem? (i := 28) rfl)) rfl
theorem bk_1291 : Cond.instanceMethod yX8_grave ∈ BIG := big_in (tb6 (List.mem_of_getElem? (i := 29) rfl)) rfl
theorem bk_1292 : Cond.selects RX8 yX8_grave yX8_grave ∈ BIG := big_in (tb6 (List.mem_of_getElem? (i := 30) rfl)) rfl
theorem bk_1293 : Cond.code yX8_grave cX8_grave 2 (some .int) ∈ BIG := big_in (tb6 (List.mem_of_getElem? (i := 31) rfl)) rfl
theorem bk_1294 : Cond.methodLink RX8 224 yX8_newestGrave ∈ BIG := big_in (tb6 (List.mem_of_getElem? (i := 32) rfl)) rfl
theorem bk_1296 : Cond.instanceMethod yX8_newestGrave ∈ BIG := big_in (tb6 (List.mem_of_getElem? (i := 34) rfl)) rfl
theorem bk_1297 : Cond.code yX8_newestGrave cX8_newestGrave 4 (some .int) ∈ BIG := big_in (tb6 (List.mem_of_getElem? (i := 35) rfl)) rfl
theorem bk_1298 : Cond.methodLink RL 171 yX8_saves ∈ BIG := big_in (tb6 (List.mem_of_getElem? (i := 36) rfl)) rfl
theorem bk_1299 : Cond.instanceMethod yX8_saves ∈ BIG := big_in (tb6 (List.mem_of_getElem? (i := 37) rfl)) rfl
theorem bk_1300 : Cond.selects RX8 yX8_saves yX8_saves ∈ BIG := big_in (tb6 (List.mem_of_getElem? (i := 38) rfl)) rfl
theorem bk_1301 : Cond.code yX8_saves cX8_saves 2 (some .int) ∈ BIG := big_in (tb6 (List.mem_of_getElem? (i := 39) rfl)) rfl
theorem bk_1302 : Cond.methodLink RX8 227 yX8_savedBy ∈ BIG := big_in (tb6 (List.mem_of_getElem? (i := 40) rfl)) rfl
theorem bk_1304 : Cond.instanceMethod yX8_savedBy ∈ BIG := big_in (tb6 (List.mem_of_getElem? (i := 42) rfl)) rfl
theorem bk_1305 : Cond.code yX8_savedBy cX8_savedBy 2 (some .int) ∈ BIG := big_in (tb6 (List.mem_of_getElem? (i := 43) rfl)) rfl
theorem bk_1306 : Cond.methodLink RL 175 yX8_best ∈ BIG := big_in (tb6 (List.mem_of_getElem? (i := 44) rfl)) rfl
theorem bk_1307 : Cond.instanceMethod yX8_best ∈ BIG := big_in (tb6 (List.mem_of_getElem? (i := 45) rfl)) rfl
theorem bk_1308 : Cond.selects RX8 yX8_best yX8_best ∈ BIG := big_in (tb6 (List.mem_of_getElem? (i := 46) rfl)) rfl
theorem bk_1309 : Cond.code yX8_best cX8_best 6 (some .int) ∈ BIG := big_in (tb6 (List.mem_of_getElem? (i := 47) rfl)) rfl
theorem bk_1310 : Cond.methodLink RL 179 yX8_fewest ∈ BIG := big_in (tb6 (List.mem_of_getElem? (i := 48) rfl)) rfl
theorem bk_1311 : Cond.instanceMethod yX8_fewest ∈ BIG := big_in (tb6 (List.mem_of_getElem? (i := 49) rfl)) rfl
theorem bk_1312 : Cond.selects RX8 yX8_fewest yX8_fewest ∈ BIG := big_in (tb6 (List.mem_of_getElem? (i := 50) rfl)) rfl
theorem bk_1313 : Cond.code yX8_fewest cX8_fewest 1 (some .int) ∈ BIG := big_in (tb6 (List.mem_of_getElem? (i := 51) rfl)) rfl
theorem bk_1314 : Cond.methodLink RL 185 yX8_runScript ∈ BIG := big_in (tb6 (List.mem_of_getElem? (i := 52) rfl)) rfl
theorem bk_1315 : Cond.instanceMethod yX8_runScript ∈ BIG := big_in (tb6 (List.mem_of_getElem? (i := 53) rfl)) rfl
theorem bk_1316 : Cond.selects RX8 yX8_runScript yX8_runScript ∈ BIG := big_in (tb6 (List.mem_of_getElem? (i := 54) rfl)) rfl
theorem bk_1317 : Cond.code yX8_runScript cX8_runScript 6 (some .int) ∈ BIG := big_in (tb6 (List.mem_of_getElem? (i := 55) rfl)) rfl
theorem bk_1318 : Cond.constantLong RX8 243 (999999999999999) ∈ BIG := big_in (tb6 (List.mem_of_getElem? (i := 56) rfl)) rfl
theorem bk_1319 : Cond.constantLong RX8 245 (9999999999) ∈ BIG := big_in (tb6 (List.mem_of_getElem? (i := 57) rfl)) rfl
theorem bk_1320 : Cond.constantLong RX8 247 (99999) ∈ BIG := big_in (tb6 (List.mem_of_getElem? (i := 58) rfl)) rfl
theorem bk_1321 : Cond.methodLink RX8 249 yX8_ran ∈ BIG := big_in (tb6 (List.mem_of_getElem? (i := 59) rfl)) rfl
theorem bk_1323 : Cond.instanceMethod yX8_ran ∈ BIG := big_in (tb6 (List.mem_of_getElem? (i := 61) rfl)) rfl
theorem bk_1324 : Cond.code yX8_ran cX8_ran 11 (some .int) ∈ BIG := big_in (tb6 (List.mem_of_getElem? (i := 62) rfl)) rfl
theorem bk_1325 : Cond.constantLong RX8 230 (10000000000) ∈ BIG := big_in (tb6 (List.mem_of_getElem? (i := 63) rfl)) rfl
theorem bk_1326 : Cond.constantLong RX8 232 (100000) ∈ BIG := big_in (tb6 (List.mem_of_getElem? (i := 64) rfl)) rfl
theorem bk_1327 : Cond.methodLink RX8 234 yX8_putAside ∈ BIG := big_in (tb6 (List.mem_of_getElem? (i := 65) rfl)) rfl
theorem bk_1329 : Cond.instanceMethod yX8_putAside ∈ BIG := big_in (tb6 (List.mem_of_getElem? (i := 67) rfl)) rfl
theorem bk_1330 : Cond.code yX8_putAside cX8_putAside 2 none ∈ BIG := big_in (tb6 (List.mem_of_getElem? (i := 68) rfl)) rfl
theorem bk_1331 : Cond.methodLink RX8 237 yX8_doesWell ∈ BIG := big_in (tb6 (List.mem_of_getElem? (i := 69) rfl)) rfl
theorem bk_1333 : Cond.instanceMethod yX8_doesWell ∈ BIG := big_in (tb6 (List.mem_of_getElem? (i := 71) rfl)) rfl
theorem bk_1334 : Cond.code yX8_doesWell cX8_doesWell 7 (some .boolean) ∈ BIG := big_in (tb6 (List.mem_of_getElem? (i := 72) rfl)) rfl
theorem bk_1335 : Cond.methodLink RX8 240 yX8_putBack ∈ BIG := big_in (tb6 (List.mem_of_getElem? (i := 73) rfl)) rfl
theorem bk_1337 : Cond.instanceMethod yX8_putBack ∈ BIG := big_in (tb6 (List.mem_of_getElem? (i := 75) rfl)) rfl
theorem bk_1338 : Cond.code yX8_putBack cX8_putBack 2 none ∈ BIG := big_in (tb6 (List.mem_of_getElem? (i := 76) rfl)) rfl
theorem bk_1339 : Cond.methodLink RL 189 yX8_simulate ∈ BIG := big_in (tb6 (List.mem_of_getElem? (i := 77) rfl)) rfl
theorem bk_1340 : Cond.instanceMethod yX8_simulate ∈ BIG := big_in (tb6 (List.mem_of_getElem? (i := 78) rfl)) rfl
theorem bk_1341 : Cond.selects RX8 yX8_simulate yX8_simulate ∈ BIG := big_in (tb6 (List.mem_of_getElem? (i := 79) rfl)) rfl
theorem bk_1342 : Cond.code yX8_simulate cX8_simulate 4 (some .int) ∈ BIG := big_in (tb6 (List.mem_of_getElem? (i := 80) rfl)) rfl
theorem bk_1343 : Cond.methodLink RX8 261 yX8_simulated ∈ BIG := big_in (tb6 (List.mem_of_getElem? (i := 81) rfl)) rfl
theorem bk_1345 : Cond.instanceMethod yX8_simulated ∈ BIG := big_in (tb6 (List.mem_of_getElem? (i := 83) rfl)) rfl
theorem bk_1346 : Cond.code yX8_simulated cX8_simulated 7 (some .int) ∈ BIG := big_in (tb6 (List.mem_of_getElem? (i := 84) rfl)) rfl
theorem bk_1347 : Cond.constantLong RX8 253 (6364136223846793005) ∈ BIG := big_in (tb6 (List.mem_of_getElem? (i := 85) rfl)) rfl
theorem bk_1348 : Cond.constantLong RX8 255 (1442695040888963407) ∈ BIG := big_in (tb6 (List.mem_of_getElem? (i := 86) rfl)) rfl
theorem bk_1349 : Cond.methodLink RX8 257 yX8_turn ∈ BIG := big_in (tb6 (List.mem_of_getElem? (i := 87) rfl)) rfl
theorem bk_1351 : Cond.instanceMethod yX8_turn ∈ BIG := big_in (tb6 (List.mem_of_getElem? (i := 89) rfl)) rfl
theorem bk_1352 : Cond.code yX8_turn cX8_turn 6 none ∈ BIG := big_in (tb6 (List.mem_of_getElem? (i := 90) rfl)) rfl
theorem bk_1353 : Cond.methodLink RL 192 yX8_save ∈ BIG := big_in (tb6 (List.mem_of_getElem? (i := 91) rfl)) rfl
theorem bk_1354 : Cond.instanceMethod yX8_save ∈ BIG := big_in (tb6 (List.mem_of_getElem? (i := 92) rfl)) rfl
theorem bk_1355 : Cond.selects RX8 yX8_save yX8_save ∈ BIG := big_in (tb6 (List.mem_of_getElem? (i := 93) rfl)) rfl
theorem bk_1356 : Cond.code yX8_save cX8_save 3 (some .int) ∈ BIG := big_in (tb6 (List.mem_of_getElem? (i := 94) rfl)) rfl
theorem bk_1357 : Cond.methodLink RL 195 yX8_restore ∈ BIG := big_in (tb6 (List.mem_of_getElem? (i := 95) rfl)) rfl
theorem bk_1358 : Cond.instanceMethod yX8_restore ∈ BIG := big_in (tb6 (List.mem_of_getElem? (i := 96) rfl)) rfl
theorem bk_1359 : Cond.selects RX8 yX8_restore yX8_restore ∈ BIG := big_in (tb6 (List.mem_of_getElem? (i := 97) rfl)) rfl
theorem bk_1360 : Cond.code yX8_restore cX8_restore 3 (some .int) ∈ BIG := big_in (tb6 (List.mem_of_getElem? (i := 98) rfl)) rfl
theorem bk_1361 : Cond.constantLong RL 180 (4294967295) ∈ BIG := big_in (tb6 (List.mem_of_getElem? (i := 99) rfl)) rfl
theorem bk_1362 : Cond.arrayClass .long ∈ BIG := big_in (tb6 (List.mem_of_getElem? (i := 100) rfl)) rfl
theorem tk_123 : Cond.arrayOver (.object RX2) ∈ lw_tbl := tb1 (List.mem_of_getElem? (i := 61) rfl)
theorem tk_125 : Cond.methodLinkNest RX0 26 yX2_init "RangeGraves" ∈ lw_tbl := tb1 (List.mem_of_getElem? (i := 63) rfl)
theorem tk_137 : Cond.fieldLinkNest RX3 122 RX0 "result" "LRangeGraves$Writes;" "RangeGraves" ∈ lw_tbl := tb1 (List.mem_of_getElem? (i := 75) rfl)
theorem tk_155 : Cond.methodLinkNest RX7 14 yX4_init "RangeGraves" ∈ lw_tbl := tb1 (List.mem_of_getElem? (i := 93) rfl)
theorem tk_176 : Cond.fieldLinkNest RX5 21 RX3 "writes" "LRangeGraves$Writes;" "RangeGraves" ∈ lw_tbl := tb1 (List.mem_of_getElem? (i := 114) rfl)
theorem tk_177 : Cond.fieldLinkNest RX0 57 RX3 "writes" "LRangeGraves$Writes;" "RangeGraves" ∈ lw_tbl := tb1 (List.mem_of_getElem? (i := 115) rfl)
theorem tk_178 : Cond.fieldLinkNest RX7 162 RX3 "writes" "LRangeGraves$Writes;" "RangeGraves" ∈ lw_tbl := tb1 (List.mem_of_getElem? (i := 116) rfl)
theorem tk_209 : Cond.arrayOver (.object RX3) ∈ lw_tbl := tb1 (List.mem_of_getElem? (i := 147) rfl)
theorem tk_223 : Cond.methodLinkNest RX7 50 yX5_init "RangeGraves" ∈ lw_tbl := tb1 (List.mem_of_getElem? (i := 161) rfl)
theorem tk_481 : Cond.castable "java/lang/IllegalArgumentException" "java/lang/IllegalArgumentException" ∈ lw_tbl := tb2 (List.mem_of_getElem? (i := 179) rfl)
theorem tk_520 : Cond.stringRef RX7 57 "a character code is 0 to 255" ∈ lw_tbl := tb2 (List.mem_of_getElem? (i := 218) rfl)
theorem tk_553 : Cond.castable "java/lang/IllegalStateException" "java/lang/IllegalStateException" ∈ lw_tbl := tb3 (List.mem_of_getElem? (i := 11) rfl)
theorem tk_560 : Cond.stringRef RX7 68 "the text already has 120 characters" ∈ lw_tbl := tb3 (List.mem_of_getElem? (i := 18) rfl)
theorem tk_578 : Cond.stringRef RX7 85 "the text is not a history" ∈ lw_tbl := tb3 (List.mem_of_getElem? (i := 36) rfl)
theorem tk_599 : Cond.methodLinkNest RX3 125 yX7_isKey "RangeGraves" ∈ lw_tbl := tb3 (List.mem_of_getElem? (i := 57) rfl)
theorem tk_602 : Cond.methodLinkNest RX3 128 yX7_isValue "RangeGraves" ∈ lw_tbl := tb3 (List.mem_of_getElem? (i := 60) rfl)
theorem tk_702 : Cond.stringRef RX7 132 "what is 0 to 8" ∈ lw_tbl := tb3 (List.mem_of_getElem? (i := 160) rfl)
theorem tk_718 : Cond.castable "java/lang/IndexOutOfBoundsException" "java/lang/IndexOutOfBoundsException" ∈ lw_tbl := tb3 (List.mem_of_getElem? (i := 176) rfl)
theorem tk_725 : Cond.stringRef RX7 142 "no such key or eye" ∈ lw_tbl := tb3 (List.mem_of_getElem? (i := 183) rfl)
theorem tk_749 : Cond.stringRef RX7 154 "no such run" ∈ lw_tbl := tb3 (List.mem_of_getElem? (i := 207) rfl)
theorem tk_758 : Cond.methodLinkNest RX3 77 yX2_init "RangeGraves" ∈ lw_tbl := tb3 (List.mem_of_getElem? (i := 216) rfl)
theorem tk_771 : Cond.stringRef RX7 174 "what is 0 to 4" ∈ lw_tbl := tb3 (List.mem_of_getElem? (i := 229) rfl)
theorem tk_779 : Cond.stringRef RX7 176 "j is not negative, and what is 0 to 3" ∈ lw_tbl := tb3 (List.mem_of_getElem? (i := 237) rfl)
theorem tk_791 : Cond.stringRef RX7 190 "no such eye" ∈ lw_tbl := tb4 (List.mem_of_getElem? (i := 9) rfl)
theorem tk_799 : Cond.stringRef RX7 192 "no such key" ∈ lw_tbl := tb4 (List.mem_of_getElem? (i := 17) rfl)
theorem tk_801 : Cond.stringRef RX7 197 "a value is 1 to 999" ∈ lw_tbl := tb4 (List.mem_of_getElem? (i := 19) rfl)
theorem tk_803 : Cond.stringRef RX7 200 "there are 48 writes" ∈ lw_tbl := tb4 (List.mem_of_getElem? (i := 21) rfl)
theorem tk_817 : Cond.stringRef RX7 210 "the last key is less than the first one" ∈ lw_tbl := tb4 (List.mem_of_getElem? (i := 35) rfl)
theorem tk_826 : Cond.stringRef RX7 218 "2 eyes are open" ∈ lw_tbl := tb4 (List.mem_of_getElem? (i := 44) rfl)
theorem tk_844 : Cond.stringRef RX7 229 "memory is empty, there are 5 runs, or it is too much" ∈ lw_tbl := tb4 (List.mem_of_getElem? (i := 62) rfl)
theorem tk_853 : Cond.stringRef RX7 240 "there is no run behind it, or it is too much" ∈ lw_tbl := tb4 (List.mem_of_getElem? (i := 71) rfl)
theorem tk_865 : Cond.stringRef RX7 246 "no state is remembered" ∈ lw_tbl := tb4 (List.mem_of_getElem? (i := 83) rfl)
theorem tk_918 : Cond.stringRef RX7 276 "a script has 1 to 3 commands" ∈ lw_tbl := tb4 (List.mem_of_getElem? (i := 136) rfl)
theorem tk_923 : Cond.stringRef RX7 282 "a script is a number of at most 5 * n digits" ∈ lw_tbl := tb4 (List.mem_of_getElem? (i := 141) rfl)
theorem tk_935 : Cond.stringRef RX7 289 "there are 1 to 60 turns" ∈ lw_tbl := tb4 (List.mem_of_getElem? (i := 153) rfl)
theorem tk_950 : Cond.stringRef RX7 298 "no such save slot" ∈ lw_tbl := tb4 (List.mem_of_getElem? (i := 168) rfl)
theorem tk_958 : Cond.stringRef RX7 300 "nothing has been saved in this slot" ∈ lw_tbl := tb4 (List.mem_of_getElem? (i := 176) rfl)
theorem layX0 : ∀ w ∈ u_ws RX0 TX0 5, w ∈ BIG := big_sub (by decide +kernel)
theorem layX1 : ∀ w ∈ u_ws RX1 TX1 3, w ∈ BIG := big_sub (by decide +kernel)
theorem layX2 : ∀ w ∈ u_ws RX2 TX2 2, w ∈ BIG := big_sub (by decide +kernel)
theorem layX3 : ∀ w ∈ u_ws RX3 TX3 8, w ∈ BIG := big_sub (by decide +kernel)
theorem layX4 : ∀ w ∈ u_ws RX4 TX4 2, w ∈ BIG := big_sub (by decide +kernel)
theorem layX5 : ∀ w ∈ u_ws RX5 TX5 1, w ∈ BIG := big_sub (by decide +kernel)
theorem layX6 : ∀ w ∈ u_ws RX6 TX6 5, w ∈ BIG := big_sub (by decide +kernel)
theorem layX7 : ∀ w ∈ u_ws RX7 TX7 7, w ∈ BIG := big_sub (by decide +kernel)
theorem layX8 : ∀ w ∈ u_ws RX8 TX8 17, w ∈ BIG := big_sub (by decide +kernel)
def M_X0_init : MT := (yX0_init, cX0_init, 2, none, { frames := 2, cells := 157, slots := 1847, locals := 43 }, 2, 0)
def M_X0_clean : MT := (yX0_clean, cX0_clean, 7, (some .int), { frames := 3, cells := 0, slots := 0, locals := 69 }, 0, 3)
def M_X0_dropHidden : MT := (yX0_dropHidden, cX0_dropHidden, 7, none, { frames := 2, cells := 0, slots := 0, locals := 43 }, 0, 3)
def M_X0_dropNeedless : MT := (yX0_dropNeedless, cX0_dropNeedless, 5, none, { frames := 1, cells := 0, slots := 0, locals := 21 }, 0, 3)
def M_X0_addRows : MT := (yX0_addRows, cX0_addRows, 7, none, { frames := 1, cells := 0, slots := 0, locals := 24 }, 0, 2)
def M_X1_init : MT := (yX1_init, cX1_init, 3, none, { frames := 3, cells := 113, slots := 19796, locals := 65 }, 2, 1)
def M_X1_size : MT := (yX1_size, cX1_size, 1, (some .int), { frames := 0, cells := 0, slots := 0, locals := 0 }, 0, 0)
def M_X1_forgetAll : MT := (yX1_forgetAll, cX1_forgetAll, 1, none, { frames := 0, cells := 0, slots := 0, locals := 0 }, 0, 0)
def M_X1_remember : MT := (yX1_remember, cX1_remember, 2, none, { frames := 3, cells := 0, slots := 0, locals := 94 }, 0, 1)
def M_X1_takeBack : MT := (yX1_takeBack, cX1_takeBack, 2, none, { frames := 3, cells := 0, slots := 0, locals := 94 }, 0, 1)
def M_X2_init : MT := (yX2_init, cX2_init, 1, none, { frames := 1, cells := 0, slots := 0, locals := 20 }, 2, 0)
def M_X2_empty : MT := (yX2_empty, cX2_empty, 1, none, { frames := 0, cells := 0, slots := 0, locals := 0 }, 0, 0)
def M_X2_addRow : MT := (yX2_addRow, cX2_addRow, 3, none, { frames := 1, cells := 0, slots := 0, locals := 21 }, 0, 2)
def M_X2_addAll : MT := (yX2_addAll, cX2_addAll, 2, none, { frames := 0, cells := 0, slots := 0, locals := 0 }, 0, 1)
def M_X2_removeAll : MT := (yX2_removeAll, cX2_removeAll, 2, none, { frames := 0, cells := 0, slots := 0, locals := 0 }, 0, 1)
def M_X2_keepOnly : MT := (yX2_keepOnly, cX2_keepOnly, 2, none, { frames := 0, cells := 0, slots := 0, locals := 0 }, 0, 1)
def M_X2_has : MT := (yX2_has, cX2_has, 4, (some .boolean), { frames := 0, cells := 0, slots := 0, locals := 0 }, 0, 1)
def M_X2_size : MT := (yX2_size, cX2_size, 1, (some .int), { frames := 1, cells := 0, slots := 0, locals := 21 }, 0, 0)
def M_X3_init : MT := (yX3_init, cX3_init, 3, none, { frames := 2, cells := 7, slots := 1405, locals := 43 }, 2, 2)
def M_X3_empty : MT := (yX3_empty, cX3_empty, 1, none, { frames := 1, cells := 0, slots := 0, locals := 20 }, 0, 0)
def M_X3_become : MT := (yX3_become, cX3_become, 2, none, { frames := 2, cells := 0, slots := 0, locals := 73 }, 0, 1)
def M_X3_size : MT := (yX3_size, cX3_size, 1, (some .int), { frames := 1, cells := 0, slots := 0, locals := 20 }, 0, 0)
def M_X3_isFull : MT := (yX3_isFull, cX3_isFull, 1, (some .boolean), { frames := 1, cells := 0, slots := 0, locals := 20 }, 0, 0)
def M_X3_runs : MT := (yX3_runs, cX3_runs, 1, (some .int), { frames := 0, cells := 0, slots := 0, locals := 0 }, 0, 0)
def M_X3_eyes : MT := (yX3_eyes, cX3_eyes, 1, (some .int), { frames := 0, cells := 0, slots := 0, locals := 0 }, 0, 0)
def M_X3_latest : MT := (yX3_latest, cX3_latest, 1, (some .int), { frames := 0, cells := 0, slots := 0, locals := 0 }, 0, 0)
def M_X3_fewer : MT := (yX3_fewer, cX3_fewer, 1, (some .int), { frames := 0, cells := 0, slots := 0, locals := 0 }, 0, 0)
def M_X3_isRun : MT := (yX3_isRun, cX3_isRun, 2, (some .boolean), { frames := 0, cells := 0, slots := 0, locals := 0 }, 0, 1)
def M_X3_isPlace : MT := (yX3_isPlace, cX3_isPlace, 2, (some .boolean), { frames := 1, cells := 0, slots := 0, locals := 21 }, 0, 1)
def M_X3_startOf : MT := (yX3_startOf, cX3_startOf, 3, (some .int), { frames := 0, cells := 0, slots := 0, locals := 0 }, 0, 1)
def M_X3_endOf : MT := (yX3_endOf, cX3_endOf, 3, (some .int), { frames := 1, cells := 0, slots := 0, locals := 20 }, 0, 1)
def M_X3_sizeOf : MT := (yX3_sizeOf, cX3_sizeOf, 2, (some .int), { frames := 2, cells := 0, slots := 0, locals := 42 }, 0, 1)
def M_X3_entriesIn : MT := (yX3_entriesIn, cX3_entriesIn, 5, (some .int), { frames := 1, cells := 0, slots := 0, locals := 21 }, 0, 2)
def M_X3_keysIn : MT := (yX3_keysIn, cX3_keysIn, 4, (some .int), { frames := 2, cells := 1, slots := 2, locals := 43 }, 0, 1)
def M_X3_isEye : MT := (yX3_isEye, cX3_isEye, 2, (some .boolean), { frames := 0, cells := 0, slots := 0, locals := 0 }, 0, 1)
def M_X3_isView : MT := (yX3_isView, cX3_isView, 2, (some .boolean), { frames := 1, cells := 0, slots := 0, locals := 21 }, 0, 1)
def M_X3_limitOf : MT := (yX3_limitOf, cX3_limitOf, 2, (some .int), { frames := 1, cells := 0, slots := 0, locals := 21 }, 0, 1)
def M_X3_eyesBefore : MT := (yX3_eyesBefore, cX3_eyesBefore, 4, (some .int), { frames := 0, cells := 0, slots := 0, locals := 0 }, 0, 1)
def M_X3_newestFor : MT := (yX3_newestFor, cX3_newestFor, 4, (some .int), { frames := 1, cells := 0, slots := 0, locals := 22 }, 0, 2)
def M_X3_valueFor : MT := (yX3_valueFor, cX3_valueFor, 3, (some .int), { frames := 2, cells := 0, slots := 0, locals := 45 }, 0, 2)
def M_X3_isSeen : MT := (yX3_isSeen, cX3_isSeen, 4, (some .boolean), { frames := 2, cells := 0, slots := 0, locals := 45 }, 0, 1)
def M_X3_canOpen : MT := (yX3_canOpen, cX3_canOpen, 1, (some .boolean), { frames := 0, cells := 0, slots := 0, locals := 0 }, 0, 0)
def M_X3_canFlush : MT := (yX3_canFlush, cX3_canFlush, 1, (some .boolean), { frames := 4, cells := 0, slots := 0, locals := 95 }, 0, 0)
def M_X3_canMerge : MT := (yX3_canMerge, cX3_canMerge, 3, (some .boolean), { frames := 4, cells := 0, slots := 0, locals := 95 }, 0, 1)
def M_X3_savedBy : MT := (yX3_savedBy, cX3_savedBy, 2, (some .int), { frames := 4, cells := 0, slots := 0, locals := 95 }, 0, 1)
def M_X3_addWrite : MT := (yX3_addWrite, cX3_addWrite, 4, none, { frames := 1, cells := 0, slots := 0, locals := 24 }, 0, 3)
def M_X3_addEye : MT := (yX3_addEye, cX3_addEye, 1, none, { frames := 0, cells := 0, slots := 0, locals := 0 }, 0, 0)
def M_X3_dropEye : MT := (yX3_dropEye, cX3_dropEye, 3, none, { frames := 1, cells := 0, slots := 0, locals := 21 }, 0, 1)
def M_X3_dropAllEyes : MT := (yX3_dropAllEyes, cX3_dropAllEyes, 1, none, { frames := 0, cells := 0, slots := 0, locals := 0 }, 0, 0)
def M_X3_flushMemory : MT := (yX3_flushMemory, cX3_flushMemory, 2, (some .int), { frames := 4, cells := 0, slots := 0, locals := 95 }, 0, 0)
def M_X3_mergeRuns : MT := (yX3_mergeRuns, cX3_mergeRuns, 7, (some .int), { frames := 4, cells := 0, slots := 0, locals := 95 }, 0, 1)
def M_X3_tryPut : MT := (yX3_tryPut, cX3_tryPut, 3, (some .boolean), { frames := 2, cells := 0, slots := 0, locals := 47 }, 0, 2)
def M_X3_tryBury : MT := (yX3_tryBury, cX3_tryBury, 3, (some .boolean), { frames := 2, cells := 0, slots := 0, locals := 47 }, 0, 2)
def M_X3_tryOpen : MT := (yX3_tryOpen, cX3_tryOpen, 1, (some .boolean), { frames := 1, cells := 0, slots := 0, locals := 20 }, 0, 0)
def M_X3_tryClose : MT := (yX3_tryClose, cX3_tryClose, 2, (some .boolean), { frames := 2, cells := 0, slots := 0, locals := 43 }, 0, 1)
def M_X3_tryFlush : MT := (yX3_tryFlush, cX3_tryFlush, 1, (some .boolean), { frames := 5, cells := 0, slots := 0, locals := 116 }, 0, 0)
def M_X3_tryMerge : MT := (yX3_tryMerge, cX3_tryMerge, 2, (some .boolean), { frames := 5, cells := 0, slots := 0, locals := 121 }, 0, 1)
def M_X4_init : MT := (yX4_init, cX4_init, 1, none, { frames := 1, cells := 1, slots := 120, locals := 20 }, 2, 0)
def M_X4_length : MT := (yX4_length, cX4_length, 1, (some .int), { frames := 0, cells := 0, slots := 0, locals := 0 }, 0, 0)
def M_X4_isFull : MT := (yX4_isFull, cX4_isFull, 1, (some .boolean), { frames := 0, cells := 0, slots := 0, locals := 0 }, 0, 0)
def M_X4_addSign : MT := (yX4_addSign, cX4_addSign, 2, none, { frames := 0, cells := 0, slots := 0, locals := 0 }, 0, 1)
def M_X4_empty : MT := (yX4_empty, cX4_empty, 1, none, { frames := 0, cells := 0, slots := 0, locals := 0 }, 0, 0)
def M_X4_signAt : MT := (yX4_signAt, cX4_signAt, 2, (some .int), { frames := 0, cells := 0, slots := 0, locals := 0 }, 0, 1)
def M_X4_isDigit : MT := (yX4_isDigit, cX4_isDigit, 2, (some .boolean), { frames := 1, cells := 0, slots := 0, locals := 21 }, 0, 1)
def M_X4_digitsAt : MT := (yX4_digitsAt, cX4_digitsAt, 5, (some .int), { frames := 1, cells := 0, slots := 0, locals := 21 }, 0, 2)
def M_X4_firstError : MT := (yX4_firstError, cX4_firstError, 4, (some .int), { frames := 3, cells := 0, slots := 0, locals := 67 }, 0, 0)
def M_X4_digitsOf : MT := (yX4_digitsOf, cX4_digitsOf, 1, (some .int), { frames := 0, cells := 0, slots := 0, locals := 0 }, 1, 1)
def M_X4_digitFits : MT := (yX4_digitFits, cX4_digitFits, 3, (some .boolean), { frames := 2, cells := 0, slots := 0, locals := 45 }, 0, 2)
def M_X5_init : MT := (yX5_init, cX5_init, 1, none, { frames := 1, cells := 1, slots := 100, locals := 20 }, 2, 0)
def M_X5_look : MT := (yX5_look, cX5_look, 6, none, { frames := 1, cells := 0, slots := 0, locals := 23 }, 0, 2)
def M_X5_sum : MT := (yX5_sum, cX5_sum, 3, (some .int), { frames := 0, cells := 0, slots := 0, locals := 0 }, 0, 0)
def M_X5_seenIn : MT := (yX5_seenIn, cX5_seenIn, 5, (some .int), { frames := 1, cells := 0, slots := 0, locals := 21 }, 0, 2)
def M_X5_firstSeen : MT := (yX5_firstSeen, cX5_firstSeen, 3, (some .int), { frames := 1, cells := 0, slots := 0, locals := 21 }, 0, 1)
def M_X6_init : MT := (yX6_init, cX6_init, 3, none, { frames := 1, cells := 4, slots := 1392, locals := 21 }, 2, 1)
def M_X6_size : MT := (yX6_size, cX6_size, 1, (some .int), { frames := 0, cells := 0, slots := 0, locals := 0 }, 0, 0)
def M_X6_empty : MT := (yX6_empty, cX6_empty, 1, none, { frames := 0, cells := 0, slots := 0, locals := 0 }, 0, 0)
def M_X6_add : MT := (yX6_add, cX6_add, 5, none, { frames := 0, cells := 0, slots := 0, locals := 0 }, 0, 4)
def M_X6_numberAt : MT := (yX6_numberAt, cX6_numberAt, 2, (some .int), { frames := 0, cells := 0, slots := 0, locals := 0 }, 0, 1)
def M_X6_firstAt : MT := (yX6_firstAt, cX6_firstAt, 2, (some .int), { frames := 0, cells := 0, slots := 0, locals := 0 }, 0, 1)
def M_X6_lastAt : MT := (yX6_lastAt, cX6_lastAt, 2, (some .int), { frames := 0, cells := 0, slots := 0, locals := 0 }, 0, 1)
def M_X6_valueAt : MT := (yX6_valueAt, cX6_valueAt, 2, (some .int), { frames := 0, cells := 0, slots := 0, locals := 0 }, 0, 1)
def M_X6_isEntry : MT := (yX6_isEntry, cX6_isEntry, 2, (some .boolean), { frames := 0, cells := 0, slots := 0, locals := 0 }, 0, 1)
def M_X6_concerns : MT := (yX6_concerns, cX6_concerns, 3, (some .boolean), { frames := 0, cells := 0, slots := 0, locals := 0 }, 0, 2)
def M_X6_replace : MT := (yX6_replace, cX6_replace, 6, none, { frames := 1, cells := 0, slots := 0, locals := 48 }, 0, 3)
def M_X7_init : MT := (yX7_init, cX7_init, 3, none, { frames := 4, cells := 310, slots := 27530, locals := 87 }, 2, 0)
def M_X7_append : MT := (yX7_append, cX7_append, 2, (some .int), { frames := 6, cells := 1, slots := 6, locals := 90 }, 0, 1)
def M_X7_clearText : MT := (yX7_clearText, cX7_clearText, 2, (some .int), { frames := 1, cells := 0, slots := 0, locals := 20 }, 0, 0)
def M_X7_errorPosition : MT := (yX7_errorPosition, cX7_errorPosition, 1, (some .int), { frames := 4, cells := 0, slots := 0, locals := 90 }, 0, 0)
def M_X7_load : MT := (yX7_load, cX7_load, 3, (some .int), { frames := 7, cells := 1, slots := 6, locals := 163 }, 0, 0)
def M_X7_about : MT := (yX7_about, cX7_about, 2, (some .int), { frames := 6, cells := 1, slots := 6, locals := 90 }, 0, 1)
def M_X7_get : MT := (yX7_get, cX7_get, 4, (some .int), { frames := 6, cells := 1, slots := 6, locals := 90 }, 0, 2)
def M_X7_run : MT := (yX7_run, cX7_run, 3, (some .int), { frames := 6, cells := 1, slots := 6, locals := 90 }, 0, 2)
def M_X7_write : MT := (yX7_write, cX7_write, 5, (some .int), { frames := 6, cells := 1, slots := 6, locals := 90 }, 0, 3)
def M_X7_eye : MT := (yX7_eye, cX7_eye, 2, (some .int), { frames := 6, cells := 1, slots := 6, locals := 90 }, 0, 1)
def M_X7_put : MT := (yX7_put, cX7_put, 3, (some .int), { frames := 6, cells := 1, slots := 6, locals := 115 }, 0, 2)
def M_X7_bury : MT := (yX7_bury, cX7_bury, 3, (some .int), { frames := 6, cells := 1, slots := 6, locals := 115 }, 0, 2)
def M_X7_open : MT := (yX7_open, cX7_open, 1, (some .int), { frames := 6, cells := 1, slots := 6, locals := 115 }, 0, 0)
def M_X7_close : MT := (yX7_close, cX7_close, 2, (some .int), { frames := 6, cells := 1, slots := 6, locals := 115 }, 0, 1)
def M_X7_flush : MT := (yX7_flush, cX7_flush, 1, (some .int), { frames := 6, cells := 1, slots := 6, locals := 116 }, 0, 0)
def M_X7_merge : MT := (yX7_merge, cX7_merge, 2, (some .int), { frames := 6, cells := 1, slots := 6, locals := 121 }, 0, 1)
def M_X7_undo : MT := (yX7_undo, cX7_undo, 1, (some .int), { frames := 6, cells := 1, slots := 6, locals := 115 }, 0, 0)
def M_X7_looks : MT := (yX7_looks, cX7_looks, 5, (some .int), { frames := 6, cells := 1, slots := 6, locals := 90 }, 0, 1)
def M_X7_next : MT := (yX7_next, cX7_next, 3, (some .int), { frames := 6, cells := 1, slots := 6, locals := 90 }, 0, 2)
def M_X7_count : MT := (yX7_count, cX7_count, 4, (some .int), { frames := 6, cells := 1, slots := 6, locals := 90 }, 0, 3)
def M_X7_hidden : MT := (yX7_hidden, cX7_hidden, 3, (some .int), { frames := 3, cells := 0, slots := 0, locals := 68 }, 0, 0)
def M_X7_grave : MT := (yX7_grave, cX7_grave, 3, (some .int), { frames := 6, cells := 1, slots := 6, locals := 90 }, 0, 1)
def M_X7_saves : MT := (yX7_saves, cX7_saves, 2, (some .int), { frames := 6, cells := 1, slots := 6, locals := 117 }, 0, 1)
def M_X7_best : MT := (yX7_best, cX7_best, 4, (some .int), { frames := 5, cells := 0, slots := 0, locals := 117 }, 0, 0)
def M_X7_fewest : MT := (yX7_fewest, cX7_fewest, 2, (some .int), { frames := 5, cells := 0, slots := 0, locals := 121 }, 0, 0)
def M_X7_runScript : MT := (yX7_runScript, cX7_runScript, 6, (some .int), { frames := 7, cells := 1, slots := 6, locals := 167 }, 0, 2)
def M_X7_simulate : MT := (yX7_simulate, cX7_simulate, 7, (some .int), { frames := 7, cells := 1, slots := 6, locals := 165 }, 0, 2)
def M_X7_save : MT := (yX7_save, cX7_save, 2, (some .int), { frames := 6, cells := 1, slots := 6, locals := 94 }, 0, 1)
def M_X7_restore : MT := (yX7_restore, cX7_restore, 2, (some .int), { frames := 6, cells := 1, slots := 6, locals := 94 }, 0, 1)
def M_X7_isKey : MT := (yX7_isKey, cX7_isKey, 1, (some .boolean), { frames := 0, cells := 0, slots := 0, locals := 0 }, 1, 1)
def M_X7_isValue : MT := (yX7_isValue, cX7_isValue, 1, (some .boolean), { frames := 0, cells := 0, slots := 0, locals := 0 }, 1, 1)
def M_X7_seenNow : MT := (yX7_seenNow, cX7_seenNow, 2, (some .int), { frames := 2, cells := 0, slots := 0, locals := 48 }, 0, 1)
def M_X7_doTextCommand : MT := (yX7_doTextCommand, cX7_doTextCommand, 2, (some .boolean), { frames := 6, cells := 0, slots := 0, locals := 142 }, 0, 1)
def M_X7_withoutLast : MT := (yX7_withoutLast, cX7_withoutLast, 6, (some .long), { frames := 0, cells := 0, slots := 0, locals := 0 }, 1, 2)
def M_X7_doGroup : MT := (yX7_doGroup, cX7_doGroup, 6, (some .boolean), { frames := 6, cells := 0, slots := 0, locals := 142 }, 0, 1)
def M_X7_doTurn : MT := (yX7_doTurn, cX7_doTurn, 4, none, { frames := 6, cells := 0, slots := 0, locals := 142 }, 0, 1)
def M_X8_init : MT := (yX8_init, cX8_init, 1, none, { frames := 1, cells := 8, slots := 5442, locals := 20 }, 2, 0)
def M_X8_thrown : MT := (yX8_thrown, cX8_thrown, 1, (some .int), { frames := 0, cells := 0, slots := 0, locals := 0 }, 0, 0)
def M_X8_in : MT := (yX8_in, cX8_in, 3, (some .boolean), { frames := 0, cells := 0, slots := 0, locals := 0 }, 1, 3)
def M_X8_holds : MT := (yX8_holds, cX8_holds, 2, (some .boolean), { frames := 0, cells := 0, slots := 0, locals := 0 }, 0, 1)
def M_X8_of : MT := (yX8_of, cX8_of, 2, (some .int), { frames := 0, cells := 0, slots := 0, locals := 0 }, 1, 2)
def M_X8_isKey : MT := (yX8_isKey, cX8_isKey, 1, (some .boolean), { frames := 1, cells := 0, slots := 0, locals := 22 }, 1, 1)
def M_X8_isRun : MT := (yX8_isRun, cX8_isRun, 2, (some .boolean), { frames := 1, cells := 0, slots := 0, locals := 22 }, 0, 1)
def M_X8_isEye : MT := (yX8_isEye, cX8_isEye, 2, (some .boolean), { frames := 1, cells := 0, slots := 0, locals := 22 }, 0, 1)
def M_X8_remember : MT := (yX8_remember, cX8_remember, 2, none, { frames := 0, cells := 0, slots := 0, locals := 0 }, 0, 0)
def M_X8_putAside : MT := (yX8_putAside, cX8_putAside, 2, none, { frames := 0, cells := 0, slots := 0, locals := 0 }, 0, 0)
def M_X8_putBack : MT := (yX8_putBack, cX8_putBack, 2, none, { frames := 0, cells := 0, slots := 0, locals := 0 }, 0, 0)
def M_X8_begin : MT := (yX8_begin, cX8_begin, 4, (some .int), { frames := 0, cells := 0, slots := 0, locals := 0 }, 0, 1)
def M_X8_manyIn : MT := (yX8_manyIn, cX8_manyIn, 2, (some .int), { frames := 0, cells := 0, slots := 0, locals := 0 }, 0, 1)
def M_X8_all : MT := (yX8_all, cX8_all, 1, (some .int), { frames := 1, cells := 0, slots := 0, locals := 23 }, 0, 0)
def M_X8_concerns : MT := (yX8_concerns, cX8_concerns, 3, (some .boolean), { frames := 1, cells := 0, slots := 0, locals := 22 }, 0, 2)
def M_X8_isEntry : MT := (yX8_isEntry, cX8_isEntry, 2, (some .boolean), { frames := 1, cells := 0, slots := 0, locals := 21 }, 0, 1)
def M_X8_newest : MT := (yX8_newest, cX8_newest, 6, (some .int), { frames := 2, cells := 0, slots := 0, locals := 44 }, 0, 2)
def M_X8_upTo : MT := (yX8_upTo, cX8_upTo, 2, (some .int), { frames := 0, cells := 0, slots := 0, locals := 0 }, 0, 1)
def M_X8_seen : MT := (yX8_seen, cX8_seen, 4, (some .int), { frames := 3, cells := 0, slots := 0, locals := 69 }, 0, 2)
def M_X8_countSeen : MT := (yX8_countSeen, cX8_countSeen, 6, (some .int), { frames := 4, cells := 0, slots := 0, locals := 92 }, 0, 3)
def M_X8_areParted : MT := (yX8_areParted, cX8_areParted, 5, (some .boolean), { frames := 0, cells := 0, slots := 0, locals := 0 }, 0, 2)
def M_X8_isCovered : MT := (yX8_isCovered, cX8_isCovered, 9, (some .boolean), { frames := 2, cells := 0, slots := 0, locals := 44 }, 0, 5)
def M_X8_hasOlderEntry : MT := (yX8_hasOlderEntry, cX8_hasOlderEntry, 7, (some .boolean), { frames := 2, cells := 0, slots := 0, locals := 44 }, 0, 4)
def M_X8_leave : MT := (yX8_leave, cX8_leave, 4, none, { frames := 1, cells := 0, slots := 0, locals := 21 }, 0, 3)
def M_X8_clean : MT := (yX8_clean, cX8_clean, 5, none, { frames := 4, cells := 0, slots := 0, locals := 99 }, 0, 3)
def M_X8_cut : MT := (yX8_cut, cX8_cut, 8, none, { frames := 3, cells := 0, slots := 0, locals := 72 }, 0, 4)
def M_X8_replace : MT := (yX8_replace, cX8_replace, 7, none, { frames := 2, cells := 0, slots := 0, locals := 43 }, 0, 2)
def M_X8_isRoomFor : MT := (yX8_isRoomFor, cX8_isRoomFor, 3, (some .boolean), { frames := 2, cells := 0, slots := 0, locals := 43 }, 0, 2)
def M_X8_putFault : MT := (yX8_putFault, cX8_putFault, 3, (some .int), { frames := 2, cells := 0, slots := 0, locals := 43 }, 0, 2)
def M_X8_writes : MT := (yX8_writes, cX8_writes, 5, (some .int), { frames := 2, cells := 0, slots := 0, locals := 43 }, 0, 3)
def M_X8_buryFault : MT := (yX8_buryFault, cX8_buryFault, 3, (some .int), { frames := 2, cells := 0, slots := 0, locals := 43 }, 0, 2)
def M_X8_buries : MT := (yX8_buries, cX8_buries, 5, (some .int), { frames := 5, cells := 0, slots := 0, locals := 117 }, 0, 2)
def M_X8_opens : MT := (yX8_opens, cX8_opens, 1, (some .int), { frames := 0, cells := 0, slots := 0, locals := 0 }, 0, 0)
def M_X8_closes : MT := (yX8_closes, cX8_closes, 2, (some .int), { frames := 0, cells := 0, slots := 0, locals := 0 }, 0, 1)
def M_X8_flushFault : MT := (yX8_flushFault, cX8_flushFault, 1, (some .int), { frames := 5, cells := 0, slots := 0, locals := 123 }, 0, 0)
def M_X8_flushes : MT := (yX8_flushes, cX8_flushes, 2, (some .int), { frames := 3, cells := 0, slots := 0, locals := 69 }, 0, 0)
def M_X8_mergeFault : MT := (yX8_mergeFault, cX8_mergeFault, 4, (some .int), { frames := 5, cells := 0, slots := 0, locals := 123 }, 0, 1)
def M_X8_merges : MT := (yX8_merges, cX8_merges, 4, (some .int), { frames := 3, cells := 0, slots := 0, locals := 69 }, 0, 1)
def M_X8_append : MT := (yX8_append, cX8_append, 2, (some .int), { frames := 1, cells := 0, slots := 0, locals := 22 }, 0, 1)
def M_X8_clearText : MT := (yX8_clearText, cX8_clearText, 2, (some .int), { frames := 0, cells := 0, slots := 0, locals := 0 }, 0, 0)
def M_X8_sign : MT := (yX8_sign, cX8_sign, 4, (some .int), { frames := 1, cells := 0, slots := 0, locals := 22 }, 0, 2)
def M_X8_key : MT := (yX8_key, cX8_key, 2, (some .int), { frames := 2, cells := 0, slots := 0, locals := 45 }, 0, 0)
def M_X8_command : MT := (yX8_command, cX8_command, 2, none, { frames := 3, cells := 0, slots := 0, locals := 66 }, 0, 0)
def M_X8_does : MT := (yX8_does, cX8_does, 4, (some .boolean), { frames := 6, cells := 0, slots := 0, locals := 146 }, 0, 0)
def M_X8_go : MT := (yX8_go, cX8_go, 4, (some .int), { frames := 7, cells := 0, slots := 0, locals := 169 }, 0, 1)
def M_X8_errorPosition : MT := (yX8_errorPosition, cX8_errorPosition, 2, (some .int), { frames := 8, cells := 0, slots := 0, locals := 192 }, 0, 0)
def M_X8_load : MT := (yX8_load, cX8_load, 3, (some .int), { frames := 8, cells := 0, slots := 0, locals := 192 }, 0, 0)
def M_X8_sumSeen : MT := (yX8_sumSeen, cX8_sumSeen, 4, (some .int), { frames := 4, cells := 0, slots := 0, locals := 92 }, 0, 0)
def M_X8_kinds : MT := (yX8_kinds, cX8_kinds, 6, (some .int), { frames := 2, cells := 0, slots := 0, locals := 42 }, 0, 3)
def M_X8_told : MT := (yX8_told, cX8_told, 2, (some .int), { frames := 5, cells := 0, slots := 0, locals := 117 }, 0, 1)
def M_X8_about : MT := (yX8_about, cX8_about, 2, (some .int), { frames := 6, cells := 0, slots := 0, locals := 138 }, 0, 1)
def M_X8_isView : MT := (yX8_isView, cX8_isView, 2, (some .boolean), { frames := 2, cells := 0, slots := 0, locals := 43 }, 0, 1)
def M_X8_get : MT := (yX8_get, cX8_get, 3, (some .int), { frames := 4, cells := 0, slots := 0, locals := 92 }, 0, 2)
def M_X8_keysOf : MT := (yX8_keysOf, cX8_keysOf, 7, (some .int), { frames := 2, cells := 0, slots := 0, locals := 44 }, 0, 2)
def M_X8_ofRun : MT := (yX8_ofRun, cX8_ofRun, 5, (some .int), { frames := 3, cells := 0, slots := 0, locals := 70 }, 0, 2)
def M_X8_run : MT := (yX8_run, cX8_run, 3, (some .int), { frames := 4, cells := 0, slots := 0, locals := 94 }, 0, 2)
def M_X8_write : MT := (yX8_write, cX8_write, 5, (some .int), { frames := 2, cells := 0, slots := 0, locals := 43 }, 0, 3)
def M_X8_eye : MT := (yX8_eye, cX8_eye, 2, (some .int), { frames := 2, cells := 0, slots := 0, locals := 43 }, 0, 1)
def M_X8_put : MT := (yX8_put, cX8_put, 3, (some .int), { frames := 3, cells := 0, slots := 0, locals := 67 }, 0, 2)
def M_X8_bury : MT := (yX8_bury, cX8_bury, 3, (some .int), { frames := 6, cells := 0, slots := 0, locals := 141 }, 0, 2)
def M_X8_open : MT := (yX8_open, cX8_open, 1, (some .int), { frames := 1, cells := 0, slots := 0, locals := 21 }, 0, 0)
def M_X8_close : MT := (yX8_close, cX8_close, 2, (some .int), { frames := 2, cells := 0, slots := 0, locals := 43 }, 0, 1)
def M_X8_flush : MT := (yX8_flush, cX8_flush, 1, (some .int), { frames := 6, cells := 0, slots := 0, locals := 143 }, 0, 0)
def M_X8_merge : MT := (yX8_merge, cX8_merge, 2, (some .int), { frames := 6, cells := 0, slots := 0, locals := 146 }, 0, 1)
def M_X8_undo : MT := (yX8_undo, cX8_undo, 2, (some .int), { frames := 1, cells := 0, slots := 0, locals := 21 }, 0, 0)
def M_X8_isIn : MT := (yX8_isIn, cX8_isIn, 5, (some .boolean), { frames := 2, cells := 0, slots := 0, locals := 44 }, 0, 2)
def M_X8_lookedAt : MT := (yX8_lookedAt, cX8_lookedAt, 4, (some .int), { frames := 3, cells := 0, slots := 0, locals := 68 }, 0, 1)
def M_X8_looks : MT := (yX8_looks, cX8_looks, 2, (some .int), { frames := 4, cells := 0, slots := 0, locals := 91 }, 0, 1)
def M_X8_nextSeen : MT := (yX8_nextSeen, cX8_nextSeen, 4, (some .int), { frames := 4, cells := 0, slots := 0, locals := 92 }, 0, 2)
def M_X8_next : MT := (yX8_next, cX8_next, 3, (some .int), { frames := 5, cells := 0, slots := 0, locals := 115 }, 0, 2)
def M_X8_count : MT := (yX8_count, cX8_count, 5, (some .int), { frames := 5, cells := 0, slots := 0, locals := 117 }, 0, 3)
def M_X8_hidden : MT := (yX8_hidden, cX8_hidden, 5, (some .int), { frames := 3, cells := 0, slots := 0, locals := 69 }, 0, 0)
def M_X8_newestGrave : MT := (yX8_newestGrave, cX8_newestGrave, 4, (some .int), { frames := 2, cells := 0, slots := 0, locals := 44 }, 0, 1)
def M_X8_grave : MT := (yX8_grave, cX8_grave, 2, (some .int), { frames := 3, cells := 0, slots := 0, locals := 67 }, 0, 1)
def M_X8_savedBy : MT := (yX8_savedBy, cX8_savedBy, 2, (some .int), { frames := 0, cells := 0, slots := 0, locals := 0 }, 0, 1)
def M_X8_saves : MT := (yX8_saves, cX8_saves, 2, (some .int), { frames := 6, cells := 0, slots := 0, locals := 146 }, 0, 1)
def M_X8_best : MT := (yX8_best, cX8_best, 6, (some .int), { frames := 6, cells := 0, slots := 0, locals := 146 }, 0, 0)
def M_X8_fewest : MT := (yX8_fewest, cX8_fewest, 1, (some .int), { frames := 5, cells := 0, slots := 0, locals := 117 }, 0, 0)
def M_X8_doesWell : MT := (yX8_doesWell, cX8_doesWell, 7, (some .boolean), { frames := 7, cells := 0, slots := 0, locals := 169 }, 0, 2)
def M_X8_ran : MT := (yX8_ran, cX8_ran, 11, (some .int), { frames := 8, cells := 0, slots := 0, locals := 195 }, 0, 2)
def M_X8_runScript : MT := (yX8_runScript, cX8_runScript, 6, (some .int), { frames := 9, cells := 0, slots := 0, locals := 225 }, 0, 2)
def M_X8_turn : MT := (yX8_turn, cX8_turn, 6, none, { frames := 7, cells := 0, slots := 0, locals := 169 }, 0, 1)
def M_X8_simulated : MT := (yX8_simulated, cX8_simulated, 7, (some .int), { frames := 8, cells := 0, slots := 0, locals := 194 }, 0, 2)
def M_X8_simulate : MT := (yX8_simulate, cX8_simulate, 4, (some .int), { frames := 9, cells := 0, slots := 0, locals := 220 }, 0, 2)
def M_X8_save : MT := (yX8_save, cX8_save, 3, (some .int), { frames := 2, cells := 0, slots := 0, locals := 43 }, 0, 1)
def M_X8_restore : MT := (yX8_restore, cX8_restore, 3, (some .int), { frames := 2, cells := 0, slots := 0, locals := 43 }, 0, 1)
def M_J13_bitCount_95d88 : MT := (yJ13_bitCount_95d88, cJ13_bitCount_95d88, 2, (some .int), { frames := 0, cells := 0, slots := 0, locals := 0 }, 1, 1)
def M_J7_fill_53178 : MT := (yJ7_fill_53178, cJ7_fill_53178, 4, none, { frames := 0, cells := 0, slots := 0, locals := 0 }, 1, 2)
def M_L_append : MT := (yL_append, cL_append, 4, (some .int), { frames := 7, cells := 1, slots := 6, locals := 111 }, 1, 3)
def M_L_load : MT := (yL_load, cL_load, 3, (some .int), { frames := 8, cells := 1, slots := 6, locals := 185 }, 1, 2)
def M_L_about : MT := (yL_about, cL_about, 4, (some .int), { frames := 7, cells := 1, slots := 6, locals := 111 }, 1, 3)
def M_L_get : MT := (yL_get, cL_get, 5, (some .int), { frames := 7, cells := 1, slots := 6, locals := 113 }, 1, 4)
def M_L_run : MT := (yL_run, cL_run, 5, (some .int), { frames := 7, cells := 1, slots := 6, locals := 112 }, 1, 4)
def M_L_write : MT := (yL_write, cL_write, 6, (some .int), { frames := 7, cells := 1, slots := 6, locals := 114 }, 1, 5)
def M_L_eye : MT := (yL_eye, cL_eye, 4, (some .int), { frames := 7, cells := 1, slots := 6, locals := 111 }, 1, 3)
def M_L_put : MT := (yL_put, cL_put, 5, (some .int), { frames := 7, cells := 1, slots := 6, locals := 137 }, 1, 4)
def M_L_bury : MT := (yL_bury, cL_bury, 5, (some .int), { frames := 7, cells := 1, slots := 6, locals := 137 }, 1, 4)
def M_L_open : MT := (yL_open, cL_open, 3, (some .int), { frames := 7, cells := 1, slots := 6, locals := 135 }, 1, 2)
def M_L_close : MT := (yL_close, cL_close, 4, (some .int), { frames := 7, cells := 1, slots := 6, locals := 136 }, 1, 3)
def M_L_flush : MT := (yL_flush, cL_flush, 3, (some .int), { frames := 7, cells := 1, slots := 6, locals := 136 }, 1, 2)
def M_L_merge : MT := (yL_merge, cL_merge, 4, (some .int), { frames := 7, cells := 1, slots := 6, locals := 142 }, 1, 3)
def M_L_undo : MT := (yL_undo, cL_undo, 3, (some .int), { frames := 7, cells := 1, slots := 6, locals := 135 }, 1, 2)
def M_L_looks : MT := (yL_looks, cL_looks, 4, (some .int), { frames := 7, cells := 1, slots := 6, locals := 114 }, 1, 3)
def M_L_next : MT := (yL_next, cL_next, 5, (some .int), { frames := 7, cells := 1, slots := 6, locals := 112 }, 1, 4)
def M_L_count : MT := (yL_count, cL_count, 6, (some .int), { frames := 7, cells := 1, slots := 6, locals := 113 }, 1, 5)
def M_L_grave : MT := (yL_grave, cL_grave, 4, (some .int), { frames := 7, cells := 1, slots := 6, locals := 112 }, 1, 3)
def M_L_saves : MT := (yL_saves, cL_saves, 4, (some .int), { frames := 7, cells := 1, slots := 6, locals := 138 }, 1, 3)
def M_L_runScript : MT := (yL_runScript, cL_runScript, 6, (some .int), { frames := 8, cells := 1, slots := 6, locals := 192 }, 1, 4)
def M_L_simulate : MT := (yL_simulate, cL_simulate, 6, (some .int), { frames := 8, cells := 1, slots := 6, locals := 191 }, 1, 4)
def M_L_save : MT := (yL_save, cL_save, 4, (some .int), { frames := 7, cells := 1, slots := 6, locals := 115 }, 1, 3)
def M_L_restore : MT := (yL_restore, cL_restore, 4, (some .int), { frames := 7, cells := 1, slots := 6, locals := 115 }, 1, 3)
def M_L_law : MT := (yL_law, cL_law, 7, (some .boolean), room_1, 1, 1)
end
section
theorem thg_140_144 : ∀ w ∈ (vx_atS RX7 144 "java/lang/IndexOutOfBoundsException" ["java/lang/RuntimeException", "java/lang/Exception"]).filter goodWord, w ∈ BIG := big_sub (by decide +kernel)
theorem thw_140_144 : ∀ w ∈ (vx_atS RX7 144 "java/lang/IndexOutOfBoundsException" ["java/lang/RuntimeException", "java/lang/Exception"]).filter (fun w => !goodWord w), w ∈ lw_tbl ∧ isWarm w = true := by decide +kernel
theorem thv_140_144 : (vx_atS RX7 144 "java/lang/IndexOutOfBoundsException" ["java/lang/RuntimeException", "java/lang/Exception"]).all vx_ot = true := by decide +kernel
theorem thg_55_59 : ∀ w ∈ (vx_atS RX7 59 "java/lang/IllegalArgumentException" ["java/lang/RuntimeException", "java/lang/Exception"]).filter goodWord, w ∈ BIG := big_sub (by decide +kernel)
theorem thw_55_59 : ∀ w ∈ (vx_atS RX7 59 "java/lang/IllegalArgumentException" ["java/lang/RuntimeException", "java/lang/Exception"]).filter (fun w => !goodWord w), w ∈ lw_tbl ∧ isWarm w = true := by decide +kernel
theorem thv_55_59 : (vx_atS RX7 59 "java/lang/IllegalArgumentException" ["java/lang/RuntimeException", "java/lang/Exception"]).all vx_ot = true := by decide +kernel
theorem thg_66_70 : ∀ w ∈ (vx_atS RX7 70 "java/lang/IllegalStateException" ["java/lang/RuntimeException", "java/lang/Exception"]).filter goodWord, w ∈ BIG := big_sub (by decide +kernel)
theorem thw_66_70 : ∀ w ∈ (vx_atS RX7 70 "java/lang/IllegalStateException" ["java/lang/RuntimeException", "java/lang/Exception"]).filter (fun w => !goodWord w), w ∈ lw_tbl ∧ isWarm w = true := by decide +kernel
theorem thv_66_70 : (vx_atS RX7 70 "java/lang/IllegalStateException" ["java/lang/RuntimeException", "java/lang/Exception"]).all vx_ot = true := by decide +kernel
end
section
theorem wok_X0_init : wok M_X0_init := ⟨show ∀ w ∈ [Cond.instanceMethod yX0_init, Cond.initialized RX0, Cond.code yX0_init cX0_init 2 none], w ∈ BIG from List.forall_mem_cons.mpr ⟨bk_93, List.forall_mem_cons.mpr ⟨bk_64, List.forall_mem_cons.mpr ⟨bk_94, fun _ h => absurd h List.not_mem_nil⟩⟩⟩, by decide +kernel, by decide +kernel, by decide +kernel⟩
theorem wok_X0_clean : wok M_X0_clean := ⟨show ∀ w ∈ [Cond.instanceMethod yX0_clean, Cond.selects RX0 yX0_clean yX0_clean, Cond.initialized RX0, Cond.code yX0_clean cX0_clean 7 (some .int)], w ∈ BIG from List.forall_mem_cons.mpr ⟨bk_366, List.forall_mem_cons.mpr ⟨bk_367, List.forall_mem_cons.mpr ⟨bk_64, List.forall_mem_cons.mpr ⟨bk_368, fun _ h => absurd h List.not_mem_nil⟩⟩⟩⟩, by decide +kernel, by decide +kernel, by decide +kernel⟩
theorem wok_X0_dropHidden : wok M_X0_dropHidden := ⟨show ∀ w ∈ [Cond.instanceMethod yX0_dropHidden, Cond.selects RX0 yX0_dropHidden yX0_dropHidden, Cond.initialized RX0, Cond.code yX0_dropHidden cX0_dropHidden 7 none], w ∈ BIG from List.forall_mem_cons.mpr ⟨bk_377, List.forall_mem_cons.mpr ⟨bk_1, List.forall_mem_cons.mpr ⟨bk_64, List.forall_mem_cons.mpr ⟨bk_378, fun _ h => absurd h List.not_mem_nil⟩⟩⟩⟩, by decide +kernel, by decide +kernel, by decide +kernel⟩
theorem wok_X0_dropNeedless : wok M_X0_dropNeedless := ⟨show ∀ w ∈ [Cond.instanceMethod yX0_dropNeedless, Cond.selects RX0 yX0_dropNeedless yX0_dropNeedless, Cond.initialized RX0, Cond.code yX0_dropNeedless cX0_dropNeedless 5 none], w ∈ BIG from List.forall_mem_cons.mpr ⟨bk_410, List.forall_mem_cons.mpr ⟨bk_2, List.forall_mem_cons.mpr ⟨bk_64, List.forall_mem_cons.mpr ⟨bk_411, fun _ h => absurd h List.not_mem_nil⟩⟩⟩⟩, by decide +kernel, by decide +kernel, by decide +kernel⟩
theorem wok_X0_addRows : wok M_X0_addRows := ⟨show ∀ w ∈ [Cond.instanceMethod yX0_addRows, Cond.selects RX0 yX0_addRows yX0_addRows, Cond.initialized RX0, Cond.code yX0_addRows cX0_addRows 7 none], w ∈ BIG from List.forall_mem_cons.mpr ⟨bk_422, List.forall_mem_cons.mpr ⟨bk_3, List.forall_mem_cons.mpr ⟨bk_64, List.forall_mem_cons.mpr ⟨bk_423, fun _ h => absurd h List.not_mem_nil⟩⟩⟩⟩, by decide +kernel, by decide +kernel, by decide +kernel⟩
theorem wok_X1_init : wok M_X1_init := ⟨show ∀ w ∈ [Cond.instanceMethod yX1_init, Cond.initialized RX1, Cond.code yX1_init cX1_init 3 none], w ∈ BIG from List.forall_mem_cons.mpr ⟨bk_205, List.forall_mem_cons.mpr ⟨bk_70, List.forall_mem_cons.mpr ⟨bk_206, fun _ h => absurd h List.not_mem_nil⟩⟩⟩, by decide +kernel, by decide +kernel, by decide +kernel⟩
theorem wok_X1_size : wok M_X1_size := ⟨show ∀ w ∈ [Cond.instanceMethod yX1_size, Cond.selects RX1 yX1_size yX1_size, Cond.initialized RX1, Cond.code yX1_size cX1_size 1 (some .int)], w ∈ BIG from List.forall_mem_cons.mpr ⟨bk_862, List.forall_mem_cons.mpr ⟨bk_863, List.forall_mem_cons.mpr ⟨bk_70, List.forall_mem_cons.mpr ⟨bk_864, fun _ h => absurd h List.not_mem_nil⟩⟩⟩⟩, by decide +kernel, by decide +kernel, by decide +kernel⟩
theorem wok_X1_forgetAll : wok M_X1_forgetAll := ⟨show ∀ w ∈ [Cond.instanceMethod yX1_forgetAll, Cond.selects RX1 yX1_forgetAll yX1_forgetAll, Cond.initialized RX1, Cond.code yX1_forgetAll cX1_forgetAll 1 none], w ∈ BIG from List.forall_mem_cons.mpr ⟨bk_585, List.forall_mem_cons.mpr ⟨bk_586, List.forall_mem_cons.mpr ⟨bk_70, List.forall_mem_cons.mpr ⟨bk_587, fun _ h => absurd h List.not_mem_nil⟩⟩⟩⟩, by decide +kernel, by decide +kernel, by decide +kernel⟩
theorem wok_X1_remember : wok M_X1_remember := ⟨show ∀ w ∈ [Cond.instanceMethod yX1_remember, Cond.selects RX1 yX1_remember yX1_remember, Cond.initialized RX1, Cond.code yX1_remember cX1_remember 2 none], w ∈ BIG from List.forall_mem_cons.mpr ⟨bk_805, List.forall_mem_cons.mpr ⟨bk_806, List.forall_mem_cons.mpr ⟨bk_70, List.forall_mem_cons.mpr ⟨bk_807, fun _ h => absurd h List.not_mem_nil⟩⟩⟩⟩, by decide +kernel, by decide +kernel, by decide +kernel⟩
theorem wok_X1_takeBack : wok M_X1_takeBack := ⟨show ∀ w ∈ [Cond.instanceMethod yX1_takeBack, Cond.selects RX1 yX1_takeBack yX1_takeBack, Cond.initialized RX1, Cond.code yX1_takeBack cX1_takeBack 2 none], w ∈ BIG from List.forall_mem_cons.mpr ⟨bk_867, List.forall_mem_cons.mpr ⟨bk_868, List.forall_mem_cons.mpr ⟨bk_70, List.forall_mem_cons.mpr ⟨bk_869, fun _ h => absurd h List.not_mem_nil⟩⟩⟩⟩, by decide +kernel, by decide +kernel, by decide +kernel⟩
theorem wok_X2_init : wok M_X2_init := ⟨show ∀ w ∈ [Cond.instanceMethod yX2_init, Cond.initialized RX2, Cond.code yX2_init cX2_init 1 none], w ∈ BIG from List.forall_mem_cons.mpr ⟨bk_126, List.forall_mem_cons.mpr ⟨bk_67, List.forall_mem_cons.mpr ⟨bk_127, fun _ h => absurd h List.not_mem_nil⟩⟩⟩, by decide +kernel, by decide +kernel, by decide +kernel⟩
theorem wok_X2_empty : wok M_X2_empty := ⟨show ∀ w ∈ [Cond.instanceMethod yX2_empty, Cond.selects RX2 yX2_empty yX2_empty, Cond.initialized RX2, Cond.code yX2_empty cX2_empty 1 none], w ∈ BIG from List.forall_mem_cons.mpr ⟨bk_385, List.forall_mem_cons.mpr ⟨bk_386, List.forall_mem_cons.mpr ⟨bk_67, List.forall_mem_cons.mpr ⟨bk_387, fun _ h => absurd h List.not_mem_nil⟩⟩⟩⟩, by decide +kernel, by decide +kernel, by decide +kernel⟩
theorem wok_X2_addRow : wok M_X2_addRow := ⟨show ∀ w ∈ [Cond.instanceMethod yX2_addRow, Cond.selects RX2 yX2_addRow yX2_addRow, Cond.initialized RX2, Cond.code yX2_addRow cX2_addRow 3 none], w ∈ BIG from List.forall_mem_cons.mpr ⟨bk_394, List.forall_mem_cons.mpr ⟨bk_395, List.forall_mem_cons.mpr ⟨bk_67, List.forall_mem_cons.mpr ⟨bk_396, fun _ h => absurd h List.not_mem_nil⟩⟩⟩⟩, by decide +kernel, by decide +kernel, by decide +kernel⟩
theorem wok_X2_addAll : wok M_X2_addAll := ⟨show ∀ w ∈ [Cond.instanceMethod yX2_addAll, Cond.selects RX2 yX2_addAll yX2_addAll, Cond.initialized RX2, Cond.code yX2_addAll cX2_addAll 2 none], w ∈ BIG from List.forall_mem_cons.mpr ⟨bk_413, List.forall_mem_cons.mpr ⟨bk_414, List.forall_mem_cons.mpr ⟨bk_67, List.forall_mem_cons.mpr ⟨bk_415, fun _ h => absurd h List.not_mem_nil⟩⟩⟩⟩, by decide +kernel, by decide +kernel, by decide +kernel⟩
theorem wok_X2_removeAll : wok M_X2_removeAll := ⟨show ∀ w ∈ [Cond.instanceMethod yX2_removeAll, Cond.selects RX2 yX2_removeAll yX2_removeAll, Cond.initialized RX2, Cond.code yX2_removeAll cX2_removeAll 2 none], w ∈ BIG from List.forall_mem_cons.mpr ⟨bk_404, List.forall_mem_cons.mpr ⟨bk_405, List.forall_mem_cons.mpr ⟨bk_67, List.forall_mem_cons.mpr ⟨bk_406, fun _ h => absurd h List.not_mem_nil⟩⟩⟩⟩, by decide +kernel, by decide +kernel, by decide +kernel⟩
theorem wok_X2_keepOnly : wok M_X2_keepOnly := ⟨show ∀ w ∈ [Cond.instanceMethod yX2_keepOnly, Cond.selects RX2 yX2_keepOnly yX2_keepOnly, Cond.initialized RX2, Cond.code yX2_keepOnly cX2_keepOnly 2 none], w ∈ BIG from List.forall_mem_cons.mpr ⟨bk_417, List.forall_mem_cons.mpr ⟨bk_418, List.forall_mem_cons.mpr ⟨bk_67, List.forall_mem_cons.mpr ⟨bk_419, fun _ h => absurd h List.not_mem_nil⟩⟩⟩⟩, by decide +kernel, by decide +kernel, by decide +kernel⟩
theorem wok_X2_has : wok M_X2_has := ⟨show ∀ w ∈ [Cond.instanceMethod yX2_has, Cond.selects RX2 yX2_has yX2_has, Cond.initialized RX2, Cond.code yX2_has cX2_has 4 (some .boolean)], w ∈ BIG from List.forall_mem_cons.mpr ⟨bk_425, List.forall_mem_cons.mpr ⟨bk_426, List.forall_mem_cons.mpr ⟨bk_67, List.forall_mem_cons.mpr ⟨bk_427, fun _ h => absurd h List.not_mem_nil⟩⟩⟩⟩, by decide +kernel, by decide +kernel, by decide +kernel⟩
theorem wok_X2_size : wok M_X2_size := ⟨show ∀ w ∈ [Cond.instanceMethod yX2_size, Cond.selects RX2 yX2_size yX2_size, Cond.initialized RX2, Cond.code yX2_size cX2_size 1 (some .int)], w ∈ BIG from List.forall_mem_cons.mpr ⟨bk_762, List.forall_mem_cons.mpr ⟨bk_763, List.forall_mem_cons.mpr ⟨bk_67, List.forall_mem_cons.mpr ⟨bk_764, fun _ h => absurd h List.not_mem_nil⟩⟩⟩⟩, by decide +kernel, by decide +kernel, by decide +kernel⟩
theorem wok_X3_init : wok M_X3_init := ⟨show ∀ w ∈ [Cond.instanceMethod yX3_init, Cond.initialized RX3, Cond.code yX3_init cX3_init 3 none], w ∈ BIG from List.forall_mem_cons.mpr ⟨bk_169, List.forall_mem_cons.mpr ⟨bk_69, List.forall_mem_cons.mpr ⟨bk_170, fun _ h => absurd h List.not_mem_nil⟩⟩⟩, by decide +kernel, by decide +kernel, by decide +kernel⟩
theorem wok_X3_empty : wok M_X3_empty := ⟨show ∀ w ∈ [Cond.instanceMethod yX3_empty, Cond.selects RX3 yX3_empty yX3_empty, Cond.initialized RX3, Cond.code yX3_empty cX3_empty 1 none], w ∈ BIG from List.forall_mem_cons.mpr ⟨bk_580, List.forall_mem_cons.mpr ⟨bk_581, List.forall_mem_cons.mpr ⟨bk_69, List.forall_mem_cons.mpr ⟨bk_582, fun _ h => absurd h List.not_mem_nil⟩⟩⟩⟩, by decide +kernel, by decide +kernel, by decide +kernel⟩
theorem wok_X3_become : wok M_X3_become := ⟨show ∀ w ∈ [Cond.instanceMethod yX3_become, Cond.selects RX3 yX3_become yX3_become, Cond.initialized RX3, Cond.code yX3_become cX3_become 2 none], w ∈ BIG from List.forall_mem_cons.mpr ⟨bk_446, List.forall_mem_cons.mpr ⟨bk_447, List.forall_mem_cons.mpr ⟨bk_69, List.forall_mem_cons.mpr ⟨bk_448, fun _ h => absurd h List.not_mem_nil⟩⟩⟩⟩, by decide +kernel, by decide +kernel, by decide +kernel⟩
theorem wok_X3_size : wok M_X3_size := ⟨show ∀ w ∈ [Cond.instanceMethod yX3_size, Cond.selects RX3 yX3_size yX3_size, Cond.initialized RX3, Cond.code yX3_size cX3_size 1 (some .int)], w ∈ BIG from List.forall_mem_cons.mpr ⟨bk_298, List.forall_mem_cons.mpr ⟨bk_299, List.forall_mem_cons.mpr ⟨bk_69, List.forall_mem_cons.mpr ⟨bk_300, fun _ h => absurd h List.not_mem_nil⟩⟩⟩⟩, by decide +kernel, by decide +kernel, by decide +kernel⟩
theorem wok_X3_isFull : wok M_X3_isFull := ⟨show ∀ w ∈ [Cond.instanceMethod yX3_isFull, Cond.selects RX3 yX3_isFull yX3_isFull, Cond.initialized RX3, Cond.code yX3_isFull cX3_isFull 1 (some .boolean)], w ∈ BIG from List.forall_mem_cons.mpr ⟨bk_606, List.forall_mem_cons.mpr ⟨bk_607, List.forall_mem_cons.mpr ⟨bk_69, List.forall_mem_cons.mpr ⟨bk_608, fun _ h => absurd h List.not_mem_nil⟩⟩⟩⟩, by decide +kernel, by decide +kernel, by decide +kernel⟩
theorem wok_X3_runs : wok M_X3_runs := ⟨show ∀ w ∈ [Cond.instanceMethod yX3_runs, Cond.selects RX3 yX3_runs yX3_runs, Cond.initialized RX3, Cond.code yX3_runs cX3_runs 1 (some .int)], w ∈ BIG from List.forall_mem_cons.mpr ⟨bk_342, List.forall_mem_cons.mpr ⟨bk_343, List.forall_mem_cons.mpr ⟨bk_69, List.forall_mem_cons.mpr ⟨bk_344, fun _ h => absurd h List.not_mem_nil⟩⟩⟩⟩, by decide +kernel, by decide +kernel, by decide +kernel⟩
theorem wok_X3_eyes : wok M_X3_eyes := ⟨show ∀ w ∈ [Cond.instanceMethod yX3_eyes, Cond.selects RX3 yX3_eyes yX3_eyes, Cond.initialized RX3, Cond.code yX3_eyes cX3_eyes 1 (some .int)], w ∈ BIG from List.forall_mem_cons.mpr ⟨bk_665, List.forall_mem_cons.mpr ⟨bk_666, List.forall_mem_cons.mpr ⟨bk_69, List.forall_mem_cons.mpr ⟨bk_667, fun _ h => absurd h List.not_mem_nil⟩⟩⟩⟩, by decide +kernel, by decide +kernel, by decide +kernel⟩
theorem wok_X3_latest : wok M_X3_latest := ⟨show ∀ w ∈ [Cond.instanceMethod yX3_latest, Cond.selects RX3 yX3_latest yX3_latest, Cond.initialized RX3, Cond.code yX3_latest cX3_latest 1 (some .int)], w ∈ BIG from List.forall_mem_cons.mpr ⟨bk_661, List.forall_mem_cons.mpr ⟨bk_662, List.forall_mem_cons.mpr ⟨bk_69, List.forall_mem_cons.mpr ⟨bk_663, fun _ h => absurd h List.not_mem_nil⟩⟩⟩⟩, by decide +kernel, by decide +kernel, by decide +kernel⟩
theorem wok_X3_fewer : wok M_X3_fewer := ⟨show ∀ w ∈ [Cond.instanceMethod yX3_fewer, Cond.selects RX3 yX3_fewer yX3_fewer, Cond.initialized RX3, Cond.code yX3_fewer cX3_fewer 1 (some .int)], w ∈ BIG from List.forall_mem_cons.mpr ⟨bk_699, List.forall_mem_cons.mpr ⟨bk_700, List.forall_mem_cons.mpr ⟨bk_69, List.forall_mem_cons.mpr ⟨bk_701, fun _ h => absurd h List.not_mem_nil⟩⟩⟩⟩, by decide +kernel, by decide +kernel, by decide +kernel⟩
theorem wok_X3_isRun : wok M_X3_isRun := ⟨show ∀ w ∈ [Cond.instanceMethod yX3_isRun, Cond.selects RX3 yX3_isRun yX3_isRun, Cond.initialized RX3, Cond.code yX3_isRun cX3_isRun 2 (some .boolean)], w ∈ BIG from List.forall_mem_cons.mpr ⟨bk_350, List.forall_mem_cons.mpr ⟨bk_351, List.forall_mem_cons.mpr ⟨bk_69, List.forall_mem_cons.mpr ⟨bk_352, fun _ h => absurd h List.not_mem_nil⟩⟩⟩⟩, by decide +kernel, by decide +kernel, by decide +kernel⟩
theorem wok_X3_isPlace : wok M_X3_isPlace := ⟨show ∀ w ∈ [Cond.instanceMethod yX3_isPlace, Cond.selects RX3 yX3_isPlace yX3_isPlace, Cond.initialized RX3, Cond.code yX3_isPlace cX3_isPlace 2 (some .boolean)], w ∈ BIG from List.forall_mem_cons.mpr ⟨bk_746, List.forall_mem_cons.mpr ⟨bk_747, List.forall_mem_cons.mpr ⟨bk_69, List.forall_mem_cons.mpr ⟨bk_748, fun _ h => absurd h List.not_mem_nil⟩⟩⟩⟩, by decide +kernel, by decide +kernel, by decide +kernel⟩
theorem wok_X3_startOf : wok M_X3_startOf := ⟨show ∀ w ∈ [Cond.instanceMethod yX3_startOf, Cond.selects RX3 yX3_startOf yX3_startOf, Cond.initialized RX3, Cond.code yX3_startOf cX3_startOf 3 (some .int)], w ∈ BIG from List.forall_mem_cons.mpr ⟨bk_362, List.forall_mem_cons.mpr ⟨bk_363, List.forall_mem_cons.mpr ⟨bk_69, List.forall_mem_cons.mpr ⟨bk_364, fun _ h => absurd h List.not_mem_nil⟩⟩⟩⟩, by decide +kernel, by decide +kernel, by decide +kernel⟩
theorem wok_X3_endOf : wok M_X3_endOf := ⟨show ∀ w ∈ [Cond.instanceMethod yX3_endOf, Cond.selects RX3 yX3_endOf yX3_endOf, Cond.initialized RX3, Cond.code yX3_endOf cX3_endOf 3 (some .int)], w ∈ BIG from List.forall_mem_cons.mpr ⟨bk_358, List.forall_mem_cons.mpr ⟨bk_359, List.forall_mem_cons.mpr ⟨bk_69, List.forall_mem_cons.mpr ⟨bk_360, fun _ h => absurd h List.not_mem_nil⟩⟩⟩⟩, by decide +kernel, by decide +kernel, by decide +kernel⟩
theorem wok_X3_sizeOf : wok M_X3_sizeOf := ⟨show ∀ w ∈ [Cond.instanceMethod yX3_sizeOf, Cond.selects RX3 yX3_sizeOf yX3_sizeOf, Cond.initialized RX3, Cond.code yX3_sizeOf cX3_sizeOf 2 (some .int)], w ∈ BIG from List.forall_mem_cons.mpr ⟨bk_354, List.forall_mem_cons.mpr ⟨bk_355, List.forall_mem_cons.mpr ⟨bk_69, List.forall_mem_cons.mpr ⟨bk_356, fun _ h => absurd h List.not_mem_nil⟩⟩⟩⟩, by decide +kernel, by decide +kernel, by decide +kernel⟩
theorem wok_X3_entriesIn : wok M_X3_entriesIn := ⟨show ∀ w ∈ [Cond.instanceMethod yX3_entriesIn, Cond.selects RX3 yX3_entriesIn yX3_entriesIn, Cond.initialized RX3, Cond.code yX3_entriesIn cX3_entriesIn 5 (some .int)], w ∈ BIG from List.forall_mem_cons.mpr ⟨bk_669, List.forall_mem_cons.mpr ⟨bk_670, List.forall_mem_cons.mpr ⟨bk_69, List.forall_mem_cons.mpr ⟨bk_671, fun _ h => absurd h List.not_mem_nil⟩⟩⟩⟩, by decide +kernel, by decide +kernel, by decide +kernel⟩
theorem wok_X3_keysIn : wok M_X3_keysIn := ⟨show ∀ w ∈ [Cond.instanceMethod yX3_keysIn, Cond.selects RX3 yX3_keysIn yX3_keysIn, Cond.initialized RX3, Cond.code yX3_keysIn cX3_keysIn 4 (some .int)], w ∈ BIG from List.forall_mem_cons.mpr ⟨bk_754, List.forall_mem_cons.mpr ⟨bk_755, List.forall_mem_cons.mpr ⟨bk_69, List.forall_mem_cons.mpr ⟨bk_756, fun _ h => absurd h List.not_mem_nil⟩⟩⟩⟩, by decide +kernel, by decide +kernel, by decide +kernel⟩
theorem wok_X3_isEye : wok M_X3_isEye := ⟨show ∀ w ∈ [Cond.instanceMethod yX3_isEye, Cond.selects RX3 yX3_isEye yX3_isEye, Cond.initialized RX3, Cond.code yX3_isEye cX3_isEye 2 (some .boolean)], w ∈ BIG from List.forall_mem_cons.mpr ⟨bk_322, List.forall_mem_cons.mpr ⟨bk_323, List.forall_mem_cons.mpr ⟨bk_69, List.forall_mem_cons.mpr ⟨bk_324, fun _ h => absurd h List.not_mem_nil⟩⟩⟩⟩, by decide +kernel, by decide +kernel, by decide +kernel⟩
theorem wok_X3_isView : wok M_X3_isView := ⟨show ∀ w ∈ [Cond.instanceMethod yX3_isView, Cond.selects RX3 yX3_isView yX3_isView, Cond.initialized RX3, Cond.code yX3_isView cX3_isView 2 (some .boolean)], w ∈ BIG from List.forall_mem_cons.mpr ⟨bk_713, List.forall_mem_cons.mpr ⟨bk_714, List.forall_mem_cons.mpr ⟨bk_69, List.forall_mem_cons.mpr ⟨bk_715, fun _ h => absurd h List.not_mem_nil⟩⟩⟩⟩, by decide +kernel, by decide +kernel, by decide +kernel⟩
theorem wok_X3_limitOf : wok M_X3_limitOf := ⟨show ∀ w ∈ [Cond.instanceMethod yX3_limitOf, Cond.selects RX3 yX3_limitOf yX3_limitOf, Cond.initialized RX3, Cond.code yX3_limitOf cX3_limitOf 2 (some .int)], w ∈ BIG from List.forall_mem_cons.mpr ⟨bk_318, List.forall_mem_cons.mpr ⟨bk_319, List.forall_mem_cons.mpr ⟨bk_69, List.forall_mem_cons.mpr ⟨bk_320, fun _ h => absurd h List.not_mem_nil⟩⟩⟩⟩, by decide +kernel, by decide +kernel, by decide +kernel⟩
theorem wok_X3_eyesBefore : wok M_X3_eyesBefore := ⟨show ∀ w ∈ [Cond.instanceMethod yX3_eyesBefore, Cond.selects RX3 yX3_eyesBefore yX3_eyesBefore, Cond.initialized RX3, Cond.code yX3_eyesBefore cX3_eyesBefore 4 (some .int)], w ∈ BIG from List.forall_mem_cons.mpr ⟨bk_381, List.forall_mem_cons.mpr ⟨bk_382, List.forall_mem_cons.mpr ⟨bk_69, List.forall_mem_cons.mpr ⟨bk_383, fun _ h => absurd h List.not_mem_nil⟩⟩⟩⟩, by decide +kernel, by decide +kernel, by decide +kernel⟩
theorem wok_X3_newestFor : wok M_X3_newestFor := ⟨show ∀ w ∈ [Cond.instanceMethod yX3_newestFor, Cond.selects RX3 yX3_newestFor yX3_newestFor, Cond.initialized RX3, Cond.code yX3_newestFor cX3_newestFor 4 (some .int)], w ∈ BIG from List.forall_mem_cons.mpr ⟨bk_326, List.forall_mem_cons.mpr ⟨bk_327, List.forall_mem_cons.mpr ⟨bk_69, List.forall_mem_cons.mpr ⟨bk_328, fun _ h => absurd h List.not_mem_nil⟩⟩⟩⟩, by decide +kernel, by decide +kernel, by decide +kernel⟩
theorem wok_X3_valueFor : wok M_X3_valueFor := ⟨show ∀ w ∈ [Cond.instanceMethod yX3_valueFor, Cond.selects RX3 yX3_valueFor yX3_valueFor, Cond.initialized RX3, Cond.code yX3_valueFor cX3_valueFor 3 (some .int)], w ∈ BIG from List.forall_mem_cons.mpr ⟨bk_734, List.forall_mem_cons.mpr ⟨bk_735, List.forall_mem_cons.mpr ⟨bk_69, List.forall_mem_cons.mpr ⟨bk_736, fun _ h => absurd h List.not_mem_nil⟩⟩⟩⟩, by decide +kernel, by decide +kernel, by decide +kernel⟩
theorem wok_X3_isSeen : wok M_X3_isSeen := ⟨show ∀ w ∈ [Cond.instanceMethod yX3_isSeen, Cond.selects RX3 yX3_isSeen yX3_isSeen, Cond.initialized RX3, Cond.code yX3_isSeen cX3_isSeen 4 (some .boolean)], w ∈ BIG from List.forall_mem_cons.mpr ⟨bk_310, List.forall_mem_cons.mpr ⟨bk_311, List.forall_mem_cons.mpr ⟨bk_69, List.forall_mem_cons.mpr ⟨bk_312, fun _ h => absurd h List.not_mem_nil⟩⟩⟩⟩, by decide +kernel, by decide +kernel, by decide +kernel⟩
theorem wok_X3_canOpen : wok M_X3_canOpen := ⟨show ∀ w ∈ [Cond.instanceMethod yX3_canOpen, Cond.selects RX3 yX3_canOpen yX3_canOpen, Cond.initialized RX3, Cond.code yX3_canOpen cX3_canOpen 1 (some .boolean)], w ∈ BIG from List.forall_mem_cons.mpr ⟨bk_638, List.forall_mem_cons.mpr ⟨bk_639, List.forall_mem_cons.mpr ⟨bk_69, List.forall_mem_cons.mpr ⟨bk_640, fun _ h => absurd h List.not_mem_nil⟩⟩⟩⟩, by decide +kernel, by decide +kernel, by decide +kernel⟩
theorem wok_X3_canFlush : wok M_X3_canFlush := ⟨show ∀ w ∈ [Cond.instanceMethod yX3_canFlush, Cond.selects RX3 yX3_canFlush yX3_canFlush, Cond.initialized RX3, Cond.code yX3_canFlush cX3_canFlush 1 (some .boolean)], w ∈ BIG from List.forall_mem_cons.mpr ⟨bk_623, List.forall_mem_cons.mpr ⟨bk_624, List.forall_mem_cons.mpr ⟨bk_69, List.forall_mem_cons.mpr ⟨bk_625, fun _ h => absurd h List.not_mem_nil⟩⟩⟩⟩, by decide +kernel, by decide +kernel, by decide +kernel⟩
theorem wok_X3_canMerge : wok M_X3_canMerge := ⟨show ∀ w ∈ [Cond.instanceMethod yX3_canMerge, Cond.selects RX3 yX3_canMerge yX3_canMerge, Cond.initialized RX3, Cond.code yX3_canMerge cX3_canMerge 3 (some .boolean)], w ∈ BIG from List.forall_mem_cons.mpr ⟨bk_346, List.forall_mem_cons.mpr ⟨bk_347, List.forall_mem_cons.mpr ⟨bk_69, List.forall_mem_cons.mpr ⟨bk_348, fun _ h => absurd h List.not_mem_nil⟩⟩⟩⟩, by decide +kernel, by decide +kernel, by decide +kernel⟩
theorem wok_X3_savedBy : wok M_X3_savedBy := ⟨show ∀ w ∈ [Cond.instanceMethod yX3_savedBy, Cond.selects RX3 yX3_savedBy yX3_savedBy, Cond.initialized RX3, Cond.code yX3_savedBy cX3_savedBy 2 (some .int)], w ∈ BIG from List.forall_mem_cons.mpr ⟨bk_438, List.forall_mem_cons.mpr ⟨bk_439, List.forall_mem_cons.mpr ⟨bk_69, List.forall_mem_cons.mpr ⟨bk_440, fun _ h => absurd h List.not_mem_nil⟩⟩⟩⟩, by decide +kernel, by decide +kernel, by decide +kernel⟩
theorem wok_X3_addWrite : wok M_X3_addWrite := ⟨show ∀ w ∈ [Cond.instanceMethod yX3_addWrite, Cond.selects RX3 yX3_addWrite yX3_addWrite, Cond.initialized RX3, Cond.code yX3_addWrite cX3_addWrite 4 none], w ∈ BIG from List.forall_mem_cons.mpr ⟨bk_610, List.forall_mem_cons.mpr ⟨bk_611, List.forall_mem_cons.mpr ⟨bk_69, List.forall_mem_cons.mpr ⟨bk_612, fun _ h => absurd h List.not_mem_nil⟩⟩⟩⟩, by decide +kernel, by decide +kernel, by decide +kernel⟩
theorem wok_X3_addEye : wok M_X3_addEye := ⟨show ∀ w ∈ [Cond.instanceMethod yX3_addEye, Cond.selects RX3 yX3_addEye yX3_addEye, Cond.initialized RX3, Cond.code yX3_addEye cX3_addEye 1 none], w ∈ BIG from List.forall_mem_cons.mpr ⟨bk_642, List.forall_mem_cons.mpr ⟨bk_643, List.forall_mem_cons.mpr ⟨bk_69, List.forall_mem_cons.mpr ⟨bk_644, fun _ h => absurd h List.not_mem_nil⟩⟩⟩⟩, by decide +kernel, by decide +kernel, by decide +kernel⟩
theorem wok_X3_dropEye : wok M_X3_dropEye := ⟨show ∀ w ∈ [Cond.instanceMethod yX3_dropEye, Cond.selects RX3 yX3_dropEye yX3_dropEye, Cond.initialized RX3, Cond.code yX3_dropEye cX3_dropEye 3 none], w ∈ BIG from List.forall_mem_cons.mpr ⟨bk_650, List.forall_mem_cons.mpr ⟨bk_651, List.forall_mem_cons.mpr ⟨bk_69, List.forall_mem_cons.mpr ⟨bk_652, fun _ h => absurd h List.not_mem_nil⟩⟩⟩⟩, by decide +kernel, by decide +kernel, by decide +kernel⟩
theorem wok_X3_dropAllEyes : wok M_X3_dropAllEyes := ⟨show ∀ w ∈ [Cond.instanceMethod yX3_dropAllEyes, Cond.selects RX3 yX3_dropAllEyes yX3_dropAllEyes, Cond.initialized RX3, Cond.code yX3_dropAllEyes cX3_dropAllEyes 1 none], w ∈ BIG from List.forall_mem_cons.mpr ⟨bk_458, List.forall_mem_cons.mpr ⟨bk_459, List.forall_mem_cons.mpr ⟨bk_69, List.forall_mem_cons.mpr ⟨bk_460, fun _ h => absurd h List.not_mem_nil⟩⟩⟩⟩, by decide +kernel, by decide +kernel, by decide +kernel⟩
theorem wok_X3_flushMemory : wok M_X3_flushMemory := ⟨show ∀ w ∈ [Cond.instanceMethod yX3_flushMemory, Cond.selects RX3 yX3_flushMemory yX3_flushMemory, Cond.initialized RX3, Cond.code yX3_flushMemory cX3_flushMemory 2 (some .int)], w ∈ BIG from List.forall_mem_cons.mpr ⟨bk_463, List.forall_mem_cons.mpr ⟨bk_464, List.forall_mem_cons.mpr ⟨bk_69, List.forall_mem_cons.mpr ⟨bk_465, fun _ h => absurd h List.not_mem_nil⟩⟩⟩⟩, by decide +kernel, by decide +kernel, by decide +kernel⟩
theorem wok_X3_mergeRuns : wok M_X3_mergeRuns := ⟨show ∀ w ∈ [Cond.instanceMethod yX3_mergeRuns, Cond.selects RX3 yX3_mergeRuns yX3_mergeRuns, Cond.initialized RX3, Cond.code yX3_mergeRuns cX3_mergeRuns 7 (some .int)], w ∈ BIG from List.forall_mem_cons.mpr ⟨bk_467, List.forall_mem_cons.mpr ⟨bk_468, List.forall_mem_cons.mpr ⟨bk_69, List.forall_mem_cons.mpr ⟨bk_469, fun _ h => absurd h List.not_mem_nil⟩⟩⟩⟩, by decide +kernel, by decide +kernel, by decide +kernel⟩
theorem wok_X3_tryPut : wok M_X3_tryPut := ⟨show ∀ w ∈ [Cond.instanceMethod yX3_tryPut, Cond.selects RX3 yX3_tryPut yX3_tryPut, Cond.initialized RX3, Cond.code yX3_tryPut cX3_tryPut 3 (some .boolean)], w ∈ BIG from List.forall_mem_cons.mpr ⟨bk_596, List.forall_mem_cons.mpr ⟨bk_597, List.forall_mem_cons.mpr ⟨bk_69, List.forall_mem_cons.mpr ⟨bk_598, fun _ h => absurd h List.not_mem_nil⟩⟩⟩⟩, by decide +kernel, by decide +kernel, by decide +kernel⟩
theorem wok_X3_tryBury : wok M_X3_tryBury := ⟨show ∀ w ∈ [Cond.instanceMethod yX3_tryBury, Cond.selects RX3 yX3_tryBury yX3_tryBury, Cond.initialized RX3, Cond.code yX3_tryBury cX3_tryBury 3 (some .boolean)], w ∈ BIG from List.forall_mem_cons.mpr ⟨bk_615, List.forall_mem_cons.mpr ⟨bk_616, List.forall_mem_cons.mpr ⟨bk_69, List.forall_mem_cons.mpr ⟨bk_617, fun _ h => absurd h List.not_mem_nil⟩⟩⟩⟩, by decide +kernel, by decide +kernel, by decide +kernel⟩
theorem wok_X3_tryOpen : wok M_X3_tryOpen := ⟨show ∀ w ∈ [Cond.instanceMethod yX3_tryOpen, Cond.selects RX3 yX3_tryOpen yX3_tryOpen, Cond.initialized RX3, Cond.code yX3_tryOpen cX3_tryOpen 1 (some .boolean)], w ∈ BIG from List.forall_mem_cons.mpr ⟨bk_634, List.forall_mem_cons.mpr ⟨bk_635, List.forall_mem_cons.mpr ⟨bk_69, List.forall_mem_cons.mpr ⟨bk_636, fun _ h => absurd h List.not_mem_nil⟩⟩⟩⟩, by decide +kernel, by decide +kernel, by decide +kernel⟩
theorem wok_X3_tryClose : wok M_X3_tryClose := ⟨show ∀ w ∈ [Cond.instanceMethod yX3_tryClose, Cond.selects RX3 yX3_tryClose yX3_tryClose, Cond.initialized RX3, Cond.code yX3_tryClose cX3_tryClose 2 (some .boolean)], w ∈ BIG from List.forall_mem_cons.mpr ⟨bk_646, List.forall_mem_cons.mpr ⟨bk_647, List.forall_mem_cons.mpr ⟨bk_69, List.forall_mem_cons.mpr ⟨bk_648, fun _ h => absurd h List.not_mem_nil⟩⟩⟩⟩, by decide +kernel, by decide +kernel, by decide +kernel⟩
theorem wok_X3_tryFlush : wok M_X3_tryFlush := ⟨show ∀ w ∈ [Cond.instanceMethod yX3_tryFlush, Cond.selects RX3 yX3_tryFlush yX3_tryFlush, Cond.initialized RX3, Cond.code yX3_tryFlush cX3_tryFlush 1 (some .boolean)], w ∈ BIG from List.forall_mem_cons.mpr ⟨bk_619, List.forall_mem_cons.mpr ⟨bk_620, List.forall_mem_cons.mpr ⟨bk_69, List.forall_mem_cons.mpr ⟨bk_621, fun _ h => absurd h List.not_mem_nil⟩⟩⟩⟩, by decide +kernel, by decide +kernel, by decide +kernel⟩
theorem wok_X3_tryMerge : wok M_X3_tryMerge := ⟨show ∀ w ∈ [Cond.instanceMethod yX3_tryMerge, Cond.selects RX3 yX3_tryMerge yX3_tryMerge, Cond.initialized RX3, Cond.code yX3_tryMerge cX3_tryMerge 2 (some .boolean)], w ∈ BIG from List.forall_mem_cons.mpr ⟨bk_628, List.forall_mem_cons.mpr ⟨bk_629, List.forall_mem_cons.mpr ⟨bk_69, List.forall_mem_cons.mpr ⟨bk_630, fun _ h => absurd h List.not_mem_nil⟩⟩⟩⟩, by decide +kernel, by decide +kernel, by decide +kernel⟩
theorem wok_X4_init : wok M_X4_init := ⟨show ∀ w ∈ [Cond.instanceMethod yX4_init, Cond.initialized RX4, Cond.code yX4_init cX4_init 1 none], w ∈ BIG from List.forall_mem_cons.mpr ⟨bk_156, List.forall_mem_cons.mpr ⟨bk_68, List.forall_mem_cons.mpr ⟨bk_157, fun _ h => absurd h List.not_mem_nil⟩⟩⟩, by decide +kernel, by decide +kernel, by decide +kernel⟩
theorem wok_X4_length : wok M_X4_length := ⟨show ∀ w ∈ [Cond.instanceMethod yX4_length, Cond.selects RX4 yX4_length yX4_length, Cond.initialized RX4, Cond.code yX4_length cX4_length 1 (some .int)], w ∈ BIG from List.forall_mem_cons.mpr ⟨bk_259, List.forall_mem_cons.mpr ⟨bk_260, List.forall_mem_cons.mpr ⟨bk_68, List.forall_mem_cons.mpr ⟨bk_261, fun _ h => absurd h List.not_mem_nil⟩⟩⟩⟩, by decide +kernel, by decide +kernel, by decide +kernel⟩
theorem wok_X4_isFull : wok M_X4_isFull := ⟨show ∀ w ∈ [Cond.instanceMethod yX4_isFull, Cond.selects RX4 yX4_isFull yX4_isFull, Cond.initialized RX4, Cond.code yX4_isFull cX4_isFull 1 (some .boolean)], w ∈ BIG from List.forall_mem_cons.mpr ⟨bk_548, List.forall_mem_cons.mpr ⟨bk_549, List.forall_mem_cons.mpr ⟨bk_68, List.forall_mem_cons.mpr ⟨bk_550, fun _ h => absurd h List.not_mem_nil⟩⟩⟩⟩, by decide +kernel, by decide +kernel, by decide +kernel⟩
theorem wok_X4_addSign : wok M_X4_addSign := ⟨show ∀ w ∈ [Cond.instanceMethod yX4_addSign, Cond.selects RX4 yX4_addSign yX4_addSign, Cond.initialized RX4, Cond.code yX4_addSign cX4_addSign 2 none], w ∈ BIG from List.forall_mem_cons.mpr ⟨bk_568, List.forall_mem_cons.mpr ⟨bk_569, List.forall_mem_cons.mpr ⟨bk_68, List.forall_mem_cons.mpr ⟨bk_570, fun _ h => absurd h List.not_mem_nil⟩⟩⟩⟩, by decide +kernel, by decide +kernel, by decide +kernel⟩
theorem wok_X4_empty : wok M_X4_empty := ⟨show ∀ w ∈ [Cond.instanceMethod yX4_empty, Cond.selects RX4 yX4_empty yX4_empty, Cond.initialized RX4, Cond.code yX4_empty cX4_empty 1 none], w ∈ BIG from List.forall_mem_cons.mpr ⟨bk_263, List.forall_mem_cons.mpr ⟨bk_264, List.forall_mem_cons.mpr ⟨bk_68, List.forall_mem_cons.mpr ⟨bk_265, fun _ h => absurd h List.not_mem_nil⟩⟩⟩⟩, by decide +kernel, by decide +kernel, by decide +kernel⟩
theorem wok_X4_signAt : wok M_X4_signAt := ⟨show ∀ w ∈ [Cond.instanceMethod yX4_signAt, Cond.selects RX4 yX4_signAt yX4_signAt, Cond.initialized RX4, Cond.code yX4_signAt cX4_signAt 2 (some .int)], w ∈ BIG from List.forall_mem_cons.mpr ⟨bk_275, List.forall_mem_cons.mpr ⟨bk_276, List.forall_mem_cons.mpr ⟨bk_68, List.forall_mem_cons.mpr ⟨bk_277, fun _ h => absurd h List.not_mem_nil⟩⟩⟩⟩, by decide +kernel, by decide +kernel, by decide +kernel⟩
theorem wok_X4_isDigit : wok M_X4_isDigit := ⟨show ∀ w ∈ [Cond.instanceMethod yX4_isDigit, Cond.selects RX4 yX4_isDigit yX4_isDigit, Cond.initialized RX4, Cond.code yX4_isDigit cX4_isDigit 2 (some .boolean)], w ∈ BIG from List.forall_mem_cons.mpr ⟨bk_286, List.forall_mem_cons.mpr ⟨bk_287, List.forall_mem_cons.mpr ⟨bk_68, List.forall_mem_cons.mpr ⟨bk_288, fun _ h => absurd h List.not_mem_nil⟩⟩⟩⟩, by decide +kernel, by decide +kernel, by decide +kernel⟩
theorem wok_X4_digitsAt : wok M_X4_digitsAt := ⟨show ∀ w ∈ [Cond.instanceMethod yX4_digitsAt, Cond.selects RX4 yX4_digitsAt yX4_digitsAt, Cond.initialized RX4, Cond.code yX4_digitsAt cX4_digitsAt 5 (some .int)], w ∈ BIG from List.forall_mem_cons.mpr ⟨bk_290, List.forall_mem_cons.mpr ⟨bk_291, List.forall_mem_cons.mpr ⟨bk_68, List.forall_mem_cons.mpr ⟨bk_292, fun _ h => absurd h List.not_mem_nil⟩⟩⟩⟩, by decide +kernel, by decide +kernel, by decide +kernel⟩
theorem wok_X4_firstError : wok M_X4_firstError := ⟨show ∀ w ∈ [Cond.instanceMethod yX4_firstError, Cond.selects RX4 yX4_firstError yX4_firstError, Cond.initialized RX4, Cond.code yX4_firstError cX4_firstError 4 (some .int)], w ∈ BIG from List.forall_mem_cons.mpr ⟨bk_271, List.forall_mem_cons.mpr ⟨bk_272, List.forall_mem_cons.mpr ⟨bk_68, List.forall_mem_cons.mpr ⟨bk_273, fun _ h => absurd h List.not_mem_nil⟩⟩⟩⟩, by decide +kernel, by decide +kernel, by decide +kernel⟩
theorem wok_X4_digitsOf : wok M_X4_digitsOf := ⟨show ∀ w ∈ [Cond.static yX4_digitsOf, Cond.initialized RX4, Cond.code yX4_digitsOf cX4_digitsOf 1 (some .int)], w ∈ BIG from List.forall_mem_cons.mpr ⟨bk_279, List.forall_mem_cons.mpr ⟨bk_68, List.forall_mem_cons.mpr ⟨bk_280, fun _ h => absurd h List.not_mem_nil⟩⟩⟩, by decide +kernel, by decide +kernel, by decide +kernel⟩
theorem wok_X4_digitFits : wok M_X4_digitFits := ⟨show ∀ w ∈ [Cond.instanceMethod yX4_digitFits, Cond.selects RX4 yX4_digitFits yX4_digitFits, Cond.initialized RX4, Cond.code yX4_digitFits cX4_digitFits 3 (some .boolean)], w ∈ BIG from List.forall_mem_cons.mpr ⟨bk_283, List.forall_mem_cons.mpr ⟨bk_0, List.forall_mem_cons.mpr ⟨bk_68, List.forall_mem_cons.mpr ⟨bk_284, fun _ h => absurd h List.not_mem_nil⟩⟩⟩⟩, by decide +kernel, by decide +kernel, by decide +kernel⟩
theorem wok_X5_init : wok M_X5_init := ⟨show ∀ w ∈ [Cond.instanceMethod yX5_init, Cond.initialized RX5, Cond.code yX5_init cX5_init 1 none], w ∈ BIG from List.forall_mem_cons.mpr ⟨bk_224, List.forall_mem_cons.mpr ⟨bk_71, List.forall_mem_cons.mpr ⟨bk_225, fun _ h => absurd h List.not_mem_nil⟩⟩⟩, by decide +kernel, by decide +kernel, by decide +kernel⟩
theorem wok_X5_look : wok M_X5_look := ⟨show ∀ w ∈ [Cond.instanceMethod yX5_look, Cond.selects RX5 yX5_look yX5_look, Cond.initialized RX5, Cond.code yX5_look cX5_look 6 none], w ∈ BIG from List.forall_mem_cons.mpr ⟨bk_678, List.forall_mem_cons.mpr ⟨bk_679, List.forall_mem_cons.mpr ⟨bk_71, List.forall_mem_cons.mpr ⟨bk_680, fun _ h => absurd h List.not_mem_nil⟩⟩⟩⟩, by decide +kernel, by decide +kernel, by decide +kernel⟩
theorem wok_X5_sum : wok M_X5_sum := ⟨show ∀ w ∈ [Cond.instanceMethod yX5_sum, Cond.selects RX5 yX5_sum yX5_sum, Cond.initialized RX5, Cond.code yX5_sum cX5_sum 3 (some .int)], w ∈ BIG from List.forall_mem_cons.mpr ⟨bk_695, List.forall_mem_cons.mpr ⟨bk_696, List.forall_mem_cons.mpr ⟨bk_71, List.forall_mem_cons.mpr ⟨bk_697, fun _ h => absurd h List.not_mem_nil⟩⟩⟩⟩, by decide +kernel, by decide +kernel, by decide +kernel⟩
theorem wok_X5_seenIn : wok M_X5_seenIn := ⟨show ∀ w ∈ [Cond.instanceMethod yX5_seenIn, Cond.selects RX5 yX5_seenIn yX5_seenIn, Cond.initialized RX5, Cond.code yX5_seenIn cX5_seenIn 5 (some .int)], w ∈ BIG from List.forall_mem_cons.mpr ⟨bk_691, List.forall_mem_cons.mpr ⟨bk_692, List.forall_mem_cons.mpr ⟨bk_71, List.forall_mem_cons.mpr ⟨bk_693, fun _ h => absurd h List.not_mem_nil⟩⟩⟩⟩, by decide +kernel, by decide +kernel, by decide +kernel⟩
theorem wok_X5_firstSeen : wok M_X5_firstSeen := ⟨show ∀ w ∈ [Cond.instanceMethod yX5_firstSeen, Cond.selects RX5 yX5_firstSeen yX5_firstSeen, Cond.initialized RX5, Cond.code yX5_firstSeen cX5_firstSeen 3 (some .int)], w ∈ BIG from List.forall_mem_cons.mpr ⟨bk_886, List.forall_mem_cons.mpr ⟨bk_887, List.forall_mem_cons.mpr ⟨bk_71, List.forall_mem_cons.mpr ⟨bk_888, fun _ h => absurd h List.not_mem_nil⟩⟩⟩⟩, by decide +kernel, by decide +kernel, by decide +kernel⟩
theorem wok_X6_init : wok M_X6_init := ⟨show ∀ w ∈ [Cond.instanceMethod yX6_init, Cond.initialized RX6, Cond.code yX6_init cX6_init 3 none], w ∈ BIG from List.forall_mem_cons.mpr ⟨bk_99, List.forall_mem_cons.mpr ⟨bk_65, List.forall_mem_cons.mpr ⟨bk_100, fun _ h => absurd h List.not_mem_nil⟩⟩⟩, by decide +kernel, by decide +kernel, by decide +kernel⟩
theorem wok_X6_size : wok M_X6_size := ⟨show ∀ w ∈ [Cond.instanceMethod yX6_size, Cond.selects RX6 yX6_size yX6_size, Cond.initialized RX6, Cond.code yX6_size cX6_size 1 (some .int)], w ∈ BIG from List.forall_mem_cons.mpr ⟨bk_302, List.forall_mem_cons.mpr ⟨bk_303, List.forall_mem_cons.mpr ⟨bk_65, List.forall_mem_cons.mpr ⟨bk_304, fun _ h => absurd h List.not_mem_nil⟩⟩⟩⟩, by decide +kernel, by decide +kernel, by decide +kernel⟩
theorem wok_X6_empty : wok M_X6_empty := ⟨show ∀ w ∈ [Cond.instanceMethod yX6_empty, Cond.selects RX6 yX6_empty yX6_empty, Cond.initialized RX6, Cond.code yX6_empty cX6_empty 1 none], w ∈ BIG from List.forall_mem_cons.mpr ⟨bk_370, List.forall_mem_cons.mpr ⟨bk_371, List.forall_mem_cons.mpr ⟨bk_65, List.forall_mem_cons.mpr ⟨bk_372, fun _ h => absurd h List.not_mem_nil⟩⟩⟩⟩, by decide +kernel, by decide +kernel, by decide +kernel⟩
theorem wok_X6_add : wok M_X6_add := ⟨show ∀ w ∈ [Cond.instanceMethod yX6_add, Cond.selects RX6 yX6_add yX6_add, Cond.initialized RX6, Cond.code yX6_add cX6_add 5 none], w ∈ BIG from List.forall_mem_cons.mpr ⟨bk_433, List.forall_mem_cons.mpr ⟨bk_434, List.forall_mem_cons.mpr ⟨bk_65, List.forall_mem_cons.mpr ⟨bk_435, fun _ h => absurd h List.not_mem_nil⟩⟩⟩⟩, by decide +kernel, by decide +kernel, by decide +kernel⟩
theorem wok_X6_numberAt : wok M_X6_numberAt := ⟨show ∀ w ∈ [Cond.instanceMethod yX6_numberAt, Cond.selects RX6 yX6_numberAt yX6_numberAt, Cond.initialized RX6, Cond.code yX6_numberAt cX6_numberAt 2 (some .int)], w ∈ BIG from List.forall_mem_cons.mpr ⟨bk_330, List.forall_mem_cons.mpr ⟨bk_331, List.forall_mem_cons.mpr ⟨bk_65, List.forall_mem_cons.mpr ⟨bk_332, fun _ h => absurd h List.not_mem_nil⟩⟩⟩⟩, by decide +kernel, by decide +kernel, by decide +kernel⟩
theorem wok_X6_firstAt : wok M_X6_firstAt := ⟨show ∀ w ∈ [Cond.instanceMethod yX6_firstAt, Cond.selects RX6 yX6_firstAt yX6_firstAt, Cond.initialized RX6, Cond.code yX6_firstAt cX6_firstAt 2 (some .int)], w ∈ BIG from List.forall_mem_cons.mpr ⟨bk_314, List.forall_mem_cons.mpr ⟨bk_315, List.forall_mem_cons.mpr ⟨bk_65, List.forall_mem_cons.mpr ⟨bk_316, fun _ h => absurd h List.not_mem_nil⟩⟩⟩⟩, by decide +kernel, by decide +kernel, by decide +kernel⟩
theorem wok_X6_lastAt : wok M_X6_lastAt := ⟨show ∀ w ∈ [Cond.instanceMethod yX6_lastAt, Cond.selects RX6 yX6_lastAt yX6_lastAt, Cond.initialized RX6, Cond.code yX6_lastAt cX6_lastAt 2 (some .int)], w ∈ BIG from List.forall_mem_cons.mpr ⟨bk_390, List.forall_mem_cons.mpr ⟨bk_391, List.forall_mem_cons.mpr ⟨bk_65, List.forall_mem_cons.mpr ⟨bk_392, fun _ h => absurd h List.not_mem_nil⟩⟩⟩⟩, by decide +kernel, by decide +kernel, by decide +kernel⟩
theorem wok_X6_valueAt : wok M_X6_valueAt := ⟨show ∀ w ∈ [Cond.instanceMethod yX6_valueAt, Cond.selects RX6 yX6_valueAt yX6_valueAt, Cond.initialized RX6, Cond.code yX6_valueAt cX6_valueAt 2 (some .int)], w ∈ BIG from List.forall_mem_cons.mpr ⟨bk_429, List.forall_mem_cons.mpr ⟨bk_430, List.forall_mem_cons.mpr ⟨bk_65, List.forall_mem_cons.mpr ⟨bk_431, fun _ h => absurd h List.not_mem_nil⟩⟩⟩⟩, by decide +kernel, by decide +kernel, by decide +kernel⟩
theorem wok_X6_isEntry : wok M_X6_isEntry := ⟨show ∀ w ∈ [Cond.instanceMethod yX6_isEntry, Cond.selects RX6 yX6_isEntry yX6_isEntry, Cond.initialized RX6, Cond.code yX6_isEntry cX6_isEntry 2 (some .boolean)], w ∈ BIG from List.forall_mem_cons.mpr ⟨bk_306, List.forall_mem_cons.mpr ⟨bk_307, List.forall_mem_cons.mpr ⟨bk_65, List.forall_mem_cons.mpr ⟨bk_308, fun _ h => absurd h List.not_mem_nil⟩⟩⟩⟩, by decide +kernel, by decide +kernel, by decide +kernel⟩
theorem wok_X6_concerns : wok M_X6_concerns := ⟨show ∀ w ∈ [Cond.instanceMethod yX6_concerns, Cond.selects RX6 yX6_concerns yX6_concerns, Cond.initialized RX6, Cond.code yX6_concerns cX6_concerns 3 (some .boolean)], w ∈ BIG from List.forall_mem_cons.mpr ⟨bk_334, List.forall_mem_cons.mpr ⟨bk_335, List.forall_mem_cons.mpr ⟨bk_65, List.forall_mem_cons.mpr ⟨bk_336, fun _ h => absurd h List.not_mem_nil⟩⟩⟩⟩, by decide +kernel, by decide +kernel, by decide +kernel⟩
theorem wok_X6_replace : wok M_X6_replace := ⟨show ∀ w ∈ [Cond.instanceMethod yX6_replace, Cond.selects RX6 yX6_replace yX6_replace, Cond.initialized RX6, Cond.code yX6_replace cX6_replace 6 none], w ∈ BIG from List.forall_mem_cons.mpr ⟨bk_450, List.forall_mem_cons.mpr ⟨bk_451, List.forall_mem_cons.mpr ⟨bk_65, List.forall_mem_cons.mpr ⟨bk_452, fun _ h => absurd h List.not_mem_nil⟩⟩⟩⟩, by decide +kernel, by decide +kernel, by decide +kernel⟩
theorem wok_X7_init : wok M_X7_init := ⟨show ∀ w ∈ [Cond.instanceMethod yX7_init, Cond.initialized RX7, Cond.code yX7_init cX7_init 3 none], w ∈ BIG from List.forall_mem_cons.mpr ⟨bk_85, List.forall_mem_cons.mpr ⟨bk_63, List.forall_mem_cons.mpr ⟨bk_86, fun _ h => absurd h List.not_mem_nil⟩⟩⟩, by decide +kernel, by decide +kernel, by decide +kernel⟩
theorem wok_X7_append : wok M_X7_append := ⟨show ∀ w ∈ [Cond.instanceMethod yX7_append, Cond.selects RX7 yX7_append yX7_append, Cond.initialized RX7, Cond.code yX7_append cX7_append 2 (some .int)], w ∈ BIG from List.forall_mem_cons.mpr ⟨bk_476, List.forall_mem_cons.mpr ⟨bk_477, List.forall_mem_cons.mpr ⟨bk_63, List.forall_mem_cons.mpr ⟨bk_478, fun _ h => absurd h List.not_mem_nil⟩⟩⟩⟩, by decide +kernel, by decide +kernel, by decide +kernel⟩
theorem wok_X7_clearText : wok M_X7_clearText := ⟨show ∀ w ∈ [Cond.instanceMethod yX7_clearText, Cond.selects RX7 yX7_clearText yX7_clearText, Cond.initialized RX7, Cond.code yX7_clearText cX7_clearText 2 (some .int)], w ∈ BIG from List.forall_mem_cons.mpr ⟨bk_255, List.forall_mem_cons.mpr ⟨bk_256, List.forall_mem_cons.mpr ⟨bk_63, List.forall_mem_cons.mpr ⟨bk_257, fun _ h => absurd h List.not_mem_nil⟩⟩⟩⟩, by decide +kernel, by decide +kernel, by decide +kernel⟩
theorem wok_X7_errorPosition : wok M_X7_errorPosition := ⟨show ∀ w ∈ [Cond.instanceMethod yX7_errorPosition, Cond.selects RX7 yX7_errorPosition yX7_errorPosition, Cond.initialized RX7, Cond.code yX7_errorPosition cX7_errorPosition 1 (some .int)], w ∈ BIG from List.forall_mem_cons.mpr ⟨bk_267, List.forall_mem_cons.mpr ⟨bk_268, List.forall_mem_cons.mpr ⟨bk_63, List.forall_mem_cons.mpr ⟨bk_269, fun _ h => absurd h List.not_mem_nil⟩⟩⟩⟩, by decide +kernel, by decide +kernel, by decide +kernel⟩
theorem wok_X7_load : wok M_X7_load := ⟨show ∀ w ∈ [Cond.instanceMethod yX7_load, Cond.selects RX7 yX7_load yX7_load, Cond.initialized RX7, Cond.code yX7_load cX7_load 3 (some .int)], w ∈ BIG from List.forall_mem_cons.mpr ⟨bk_575, List.forall_mem_cons.mpr ⟨bk_576, List.forall_mem_cons.mpr ⟨bk_63, List.forall_mem_cons.mpr ⟨bk_577, fun _ h => absurd h List.not_mem_nil⟩⟩⟩⟩, by decide +kernel, by decide +kernel, by decide +kernel⟩
theorem wok_X7_about : wok M_X7_about := ⟨show ∀ w ∈ [Cond.instanceMethod yX7_about, Cond.selects RX7 yX7_about yX7_about, Cond.initialized RX7, Cond.code yX7_about cX7_about 2 (some .int)], w ∈ BIG from List.forall_mem_cons.mpr ⟨bk_657, List.forall_mem_cons.mpr ⟨bk_658, List.forall_mem_cons.mpr ⟨bk_63, List.forall_mem_cons.mpr ⟨bk_659, fun _ h => absurd h List.not_mem_nil⟩⟩⟩⟩, by decide +kernel, by decide +kernel, by decide +kernel⟩
theorem wok_X7_get : wok M_X7_get := ⟨show ∀ w ∈ [Cond.instanceMethod yX7_get, Cond.selects RX7 yX7_get yX7_get, Cond.initialized RX7, Cond.code yX7_get cX7_get 4 (some .int)], w ∈ BIG from List.forall_mem_cons.mpr ⟨bk_708, List.forall_mem_cons.mpr ⟨bk_709, List.forall_mem_cons.mpr ⟨bk_63, List.forall_mem_cons.mpr ⟨bk_710, fun _ h => absurd h List.not_mem_nil⟩⟩⟩⟩, by decide +kernel, by decide +kernel, by decide +kernel⟩
theorem wok_X7_run : wok M_X7_run := ⟨show ∀ w ∈ [Cond.instanceMethod yX7_run, Cond.selects RX7 yX7_run yX7_run, Cond.initialized RX7, Cond.code yX7_run cX7_run 3 (some .int)], w ∈ BIG from List.forall_mem_cons.mpr ⟨bk_742, List.forall_mem_cons.mpr ⟨bk_743, List.forall_mem_cons.mpr ⟨bk_63, List.forall_mem_cons.mpr ⟨bk_744, fun _ h => absurd h List.not_mem_nil⟩⟩⟩⟩, by decide +kernel, by decide +kernel, by decide +kernel⟩
theorem wok_X7_write : wok M_X7_write := ⟨show ∀ w ∈ [Cond.instanceMethod yX7_write, Cond.selects RX7 yX7_write yX7_write, Cond.initialized RX7, Cond.code yX7_write cX7_write 5 (some .int)], w ∈ BIG from List.forall_mem_cons.mpr ⟨bk_776, List.forall_mem_cons.mpr ⟨bk_777, List.forall_mem_cons.mpr ⟨bk_63, List.forall_mem_cons.mpr ⟨bk_778, fun _ h => absurd h List.not_mem_nil⟩⟩⟩⟩, by decide +kernel, by decide +kernel, by decide +kernel⟩
theorem wok_X7_eye : wok M_X7_eye := ⟨show ∀ w ∈ [Cond.instanceMethod yX7_eye, Cond.selects RX7 yX7_eye yX7_eye, Cond.initialized RX7, Cond.code yX7_eye cX7_eye 2 (some .int)], w ∈ BIG from List.forall_mem_cons.mpr ⟨bk_787, List.forall_mem_cons.mpr ⟨bk_788, List.forall_mem_cons.mpr ⟨bk_63, List.forall_mem_cons.mpr ⟨bk_789, fun _ h => absurd h List.not_mem_nil⟩⟩⟩⟩, by decide +kernel, by decide +kernel, by decide +kernel⟩
theorem wok_X7_put : wok M_X7_put := ⟨show ∀ w ∈ [Cond.instanceMethod yX7_put, Cond.selects RX7 yX7_put yX7_put, Cond.initialized RX7, Cond.code yX7_put cX7_put 3 (some .int)], w ∈ BIG from List.forall_mem_cons.mpr ⟨bk_796, List.forall_mem_cons.mpr ⟨bk_797, List.forall_mem_cons.mpr ⟨bk_63, List.forall_mem_cons.mpr ⟨bk_798, fun _ h => absurd h List.not_mem_nil⟩⟩⟩⟩, by decide +kernel, by decide +kernel, by decide +kernel⟩
theorem wok_X7_bury : wok M_X7_bury := ⟨show ∀ w ∈ [Cond.instanceMethod yX7_bury, Cond.selects RX7 yX7_bury yX7_bury, Cond.initialized RX7, Cond.code yX7_bury cX7_bury 3 (some .int)], w ∈ BIG from List.forall_mem_cons.mpr ⟨bk_814, List.forall_mem_cons.mpr ⟨bk_815, List.forall_mem_cons.mpr ⟨bk_63, List.forall_mem_cons.mpr ⟨bk_816, fun _ h => absurd h List.not_mem_nil⟩⟩⟩⟩, by decide +kernel, by decide +kernel, by decide +kernel⟩
theorem wok_X7_open : wok M_X7_open := ⟨show ∀ w ∈ [Cond.instanceMethod yX7_open, Cond.selects RX7 yX7_open yX7_open, Cond.initialized RX7, Cond.code yX7_open cX7_open 1 (some .int)], w ∈ BIG from List.forall_mem_cons.mpr ⟨bk_822, List.forall_mem_cons.mpr ⟨bk_823, List.forall_mem_cons.mpr ⟨bk_63, List.forall_mem_cons.mpr ⟨bk_824, fun _ h => absurd h List.not_mem_nil⟩⟩⟩⟩, by decide +kernel, by decide +kernel, by decide +kernel⟩
theorem wok_X7_close : wok M_X7_close := ⟨show ∀ w ∈ [Cond.instanceMethod yX7_close, Cond.selects RX7 yX7_close yX7_close, Cond.initialized RX7, Cond.code yX7_close cX7_close 2 (some .int)], w ∈ BIG from List.forall_mem_cons.mpr ⟨bk_832, List.forall_mem_cons.mpr ⟨bk_833, List.forall_mem_cons.mpr ⟨bk_63, List.forall_mem_cons.mpr ⟨bk_834, fun _ h => absurd h List.not_mem_nil⟩⟩⟩⟩, by decide +kernel, by decide +kernel, by decide +kernel⟩
theorem wok_X7_flush : wok M_X7_flush := ⟨show ∀ w ∈ [Cond.instanceMethod yX7_flush, Cond.selects RX7 yX7_flush yX7_flush, Cond.initialized RX7, Cond.code yX7_flush cX7_flush 1 (some .int)], w ∈ BIG from List.forall_mem_cons.mpr ⟨bk_840, List.forall_mem_cons.mpr ⟨bk_841, List.forall_mem_cons.mpr ⟨bk_63, List.forall_mem_cons.mpr ⟨bk_842, fun _ h => absurd h List.not_mem_nil⟩⟩⟩⟩, by decide +kernel, by decide +kernel, by decide +kernel⟩
theorem wok_X7_merge : wok M_X7_merge := ⟨show ∀ w ∈ [Cond.instanceMethod yX7_merge, Cond.selects RX7 yX7_merge yX7_merge, Cond.initialized RX7, Cond.code yX7_merge cX7_merge 2 (some .int)], w ∈ BIG from List.forall_mem_cons.mpr ⟨bk_849, List.forall_mem_cons.mpr ⟨bk_850, List.forall_mem_cons.mpr ⟨bk_63, List.forall_mem_cons.mpr ⟨bk_851, fun _ h => absurd h List.not_mem_nil⟩⟩⟩⟩, by decide +kernel, by decide +kernel, by decide +kernel⟩
theorem wok_X7_undo : wok M_X7_undo := ⟨show ∀ w ∈ [Cond.instanceMethod yX7_undo, Cond.selects RX7 yX7_undo yX7_undo, Cond.initialized RX7, Cond.code yX7_undo cX7_undo 1 (some .int)], w ∈ BIG from List.forall_mem_cons.mpr ⟨bk_858, List.forall_mem_cons.mpr ⟨bk_859, List.forall_mem_cons.mpr ⟨bk_63, List.forall_mem_cons.mpr ⟨bk_860, fun _ h => absurd h List.not_mem_nil⟩⟩⟩⟩, by decide +kernel, by decide +kernel, by decide +kernel⟩
theorem wok_X7_looks : wok M_X7_looks := ⟨show ∀ w ∈ [Cond.instanceMethod yX7_looks, Cond.selects RX7 yX7_looks yX7_looks, Cond.initialized RX7, Cond.code yX7_looks cX7_looks 5 (some .int)], w ∈ BIG from List.forall_mem_cons.mpr ⟨bk_874, List.forall_mem_cons.mpr ⟨bk_875, List.forall_mem_cons.mpr ⟨bk_63, List.forall_mem_cons.mpr ⟨bk_876, fun _ h => absurd h List.not_mem_nil⟩⟩⟩⟩, by decide +kernel, by decide +kernel, by decide +kernel⟩
theorem wok_X7_next : wok M_X7_next := ⟨show ∀ w ∈ [Cond.instanceMethod yX7_next, Cond.selects RX7 yX7_next yX7_next, Cond.initialized RX7, Cond.code yX7_next cX7_next 3 (some .int)], w ∈ BIG from List.forall_mem_cons.mpr ⟨bk_882, List.forall_mem_cons.mpr ⟨bk_883, List.forall_mem_cons.mpr ⟨bk_63, List.forall_mem_cons.mpr ⟨bk_884, fun _ h => absurd h List.not_mem_nil⟩⟩⟩⟩, by decide +kernel, by decide +kernel, by decide +kernel⟩
theorem wok_X7_count : wok M_X7_count := ⟨show ∀ w ∈ [Cond.instanceMethod yX7_count, Cond.selects RX7 yX7_count yX7_count, Cond.initialized RX7, Cond.code yX7_count cX7_count 4 (some .int)], w ∈ BIG from List.forall_mem_cons.mpr ⟨bk_893, List.forall_mem_cons.mpr ⟨bk_894, List.forall_mem_cons.mpr ⟨bk_63, List.forall_mem_cons.mpr ⟨bk_895, fun _ h => absurd h List.not_mem_nil⟩⟩⟩⟩, by decide +kernel, by decide +kernel, by decide +kernel⟩
theorem wok_X7_hidden : wok M_X7_hidden := ⟨show ∀ w ∈ [Cond.instanceMethod yX7_hidden, Cond.selects RX7 yX7_hidden yX7_hidden, Cond.initialized RX7, Cond.code yX7_hidden cX7_hidden 3 (some .int)], w ∈ BIG from List.forall_mem_cons.mpr ⟨bk_294, List.forall_mem_cons.mpr ⟨bk_295, List.forall_mem_cons.mpr ⟨bk_63, List.forall_mem_cons.mpr ⟨bk_296, fun _ h => absurd h List.not_mem_nil⟩⟩⟩⟩, by decide +kernel, by decide +kernel, by decide +kernel⟩
theorem wok_X7_grave : wok M_X7_grave := ⟨show ∀ w ∈ [Cond.instanceMethod yX7_grave, Cond.selects RX7 yX7_grave yX7_grave, Cond.initialized RX7, Cond.code yX7_grave cX7_grave 3 (some .int)], w ∈ BIG from List.forall_mem_cons.mpr ⟨bk_900, List.forall_mem_cons.mpr ⟨bk_901, List.forall_mem_cons.mpr ⟨bk_63, List.forall_mem_cons.mpr ⟨bk_902, fun _ h => absurd h List.not_mem_nil⟩⟩⟩⟩, by decide +kernel, by decide +kernel, by decide +kernel⟩
theorem wok_X7_saves : wok M_X7_saves := ⟨show ∀ w ∈ [Cond.instanceMethod yX7_saves, Cond.selects RX7 yX7_saves yX7_saves, Cond.initialized RX7, Cond.code yX7_saves cX7_saves 2 (some .int)], w ∈ BIG from List.forall_mem_cons.mpr ⟨bk_908, List.forall_mem_cons.mpr ⟨bk_909, List.forall_mem_cons.mpr ⟨bk_63, List.forall_mem_cons.mpr ⟨bk_910, fun _ h => absurd h List.not_mem_nil⟩⟩⟩⟩, by decide +kernel, by decide +kernel, by decide +kernel⟩
theorem wok_X7_best : wok M_X7_best := ⟨show ∀ w ∈ [Cond.instanceMethod yX7_best, Cond.selects RX7 yX7_best yX7_best, Cond.initialized RX7, Cond.code yX7_best cX7_best 4 (some .int)], w ∈ BIG from List.forall_mem_cons.mpr ⟨bk_338, List.forall_mem_cons.mpr ⟨bk_339, List.forall_mem_cons.mpr ⟨bk_63, List.forall_mem_cons.mpr ⟨bk_340, fun _ h => absurd h List.not_mem_nil⟩⟩⟩⟩, by decide +kernel, by decide +kernel, by decide +kernel⟩
theorem wok_X7_fewest : wok M_X7_fewest := ⟨show ∀ w ∈ [Cond.instanceMethod yX7_fewest, Cond.selects RX7 yX7_fewest yX7_fewest, Cond.initialized RX7, Cond.code yX7_fewest cX7_fewest 2 (some .int)], w ∈ BIG from List.forall_mem_cons.mpr ⟨bk_442, List.forall_mem_cons.mpr ⟨bk_443, List.forall_mem_cons.mpr ⟨bk_63, List.forall_mem_cons.mpr ⟨bk_444, fun _ h => absurd h List.not_mem_nil⟩⟩⟩⟩, by decide +kernel, by decide +kernel, by decide +kernel⟩
theorem wok_X7_runScript : wok M_X7_runScript := ⟨show ∀ w ∈ [Cond.instanceMethod yX7_runScript, Cond.selects RX7 yX7_runScript yX7_runScript, Cond.initialized RX7, Cond.code yX7_runScript cX7_runScript 6 (some .int)], w ∈ BIG from List.forall_mem_cons.mpr ⟨bk_915, List.forall_mem_cons.mpr ⟨bk_916, List.forall_mem_cons.mpr ⟨bk_63, List.forall_mem_cons.mpr ⟨bk_917, fun _ h => absurd h List.not_mem_nil⟩⟩⟩⟩, by decide +kernel, by decide +kernel, by decide +kernel⟩
theorem wok_X7_simulate : wok M_X7_simulate := ⟨show ∀ w ∈ [Cond.instanceMethod yX7_simulate, Cond.selects RX7 yX7_simulate yX7_simulate, Cond.initialized RX7, Cond.code yX7_simulate cX7_simulate 7 (some .int)], w ∈ BIG from List.forall_mem_cons.mpr ⟨bk_932, List.forall_mem_cons.mpr ⟨bk_933, List.forall_mem_cons.mpr ⟨bk_63, List.forall_mem_cons.mpr ⟨bk_934, fun _ h => absurd h List.not_mem_nil⟩⟩⟩⟩, by decide +kernel, by decide +kernel, by decide +kernel⟩
theorem wok_X7_save : wok M_X7_save := ⟨show ∀ w ∈ [Cond.instanceMethod yX7_save, Cond.selects RX7 yX7_save yX7_save, Cond.initialized RX7, Cond.code yX7_save cX7_save 2 (some .int)], w ∈ BIG from List.forall_mem_cons.mpr ⟨bk_947, List.forall_mem_cons.mpr ⟨bk_948, List.forall_mem_cons.mpr ⟨bk_63, List.forall_mem_cons.mpr ⟨bk_949, fun _ h => absurd h List.not_mem_nil⟩⟩⟩⟩, by decide +kernel, by decide +kernel, by decide +kernel⟩
theorem wok_X7_restore : wok M_X7_restore := ⟨show ∀ w ∈ [Cond.instanceMethod yX7_restore, Cond.selects RX7 yX7_restore yX7_restore, Cond.initialized RX7, Cond.code yX7_restore cX7_restore 2 (some .int)], w ∈ BIG from List.forall_mem_cons.mpr ⟨bk_955, List.forall_mem_cons.mpr ⟨bk_956, List.forall_mem_cons.mpr ⟨bk_63, List.forall_mem_cons.mpr ⟨bk_957, fun _ h => absurd h List.not_mem_nil⟩⟩⟩⟩, by decide +kernel, by decide +kernel, by decide +kernel⟩
theorem wok_X7_isKey : wok M_X7_isKey := ⟨show ∀ w ∈ [Cond.static yX7_isKey, Cond.initialized RX7, Cond.code yX7_isKey cX7_isKey 1 (some .boolean)], w ∈ BIG from List.forall_mem_cons.mpr ⟨bk_600, List.forall_mem_cons.mpr ⟨bk_63, List.forall_mem_cons.mpr ⟨bk_601, fun _ h => absurd h List.not_mem_nil⟩⟩⟩, by decide +kernel, by decide +kernel, by decide +kernel⟩
theorem wok_X7_isValue : wok M_X7_isValue := ⟨show ∀ w ∈ [Cond.static yX7_isValue, Cond.initialized RX7, Cond.code yX7_isValue cX7_isValue 1 (some .boolean)], w ∈ BIG from List.forall_mem_cons.mpr ⟨bk_603, List.forall_mem_cons.mpr ⟨bk_63, List.forall_mem_cons.mpr ⟨bk_604, fun _ h => absurd h List.not_mem_nil⟩⟩⟩, by decide +kernel, by decide +kernel, by decide +kernel⟩
theorem wok_X7_seenNow : wok M_X7_seenNow := ⟨show ∀ w ∈ [Cond.instanceMethod yX7_seenNow, Cond.selects RX7 yX7_seenNow yX7_seenNow, Cond.initialized RX7, Cond.code yX7_seenNow cX7_seenNow 2 (some .int)], w ∈ BIG from List.forall_mem_cons.mpr ⟨bk_675, List.forall_mem_cons.mpr ⟨bk_6, List.forall_mem_cons.mpr ⟨bk_63, List.forall_mem_cons.mpr ⟨bk_676, fun _ h => absurd h List.not_mem_nil⟩⟩⟩⟩, by decide +kernel, by decide +kernel, by decide +kernel⟩
theorem wok_X7_doTextCommand : wok M_X7_doTextCommand := ⟨show ∀ w ∈ [Cond.instanceMethod yX7_doTextCommand, Cond.selects RX7 yX7_doTextCommand yX7_doTextCommand, Cond.initialized RX7, Cond.code yX7_doTextCommand cX7_doTextCommand 2 (some .boolean)], w ∈ BIG from List.forall_mem_cons.mpr ⟨bk_591, List.forall_mem_cons.mpr ⟨bk_5, List.forall_mem_cons.mpr ⟨bk_63, List.forall_mem_cons.mpr ⟨bk_592, fun _ h => absurd h List.not_mem_nil⟩⟩⟩⟩, by decide +kernel, by decide +kernel, by decide +kernel⟩
theorem wok_X7_withoutLast : wok M_X7_withoutLast := ⟨show ∀ w ∈ [Cond.static yX7_withoutLast, Cond.initialized RX7, Cond.code yX7_withoutLast cX7_withoutLast 6 (some .long)], w ∈ BIG from List.forall_mem_cons.mpr ⟨bk_920, List.forall_mem_cons.mpr ⟨bk_63, List.forall_mem_cons.mpr ⟨bk_921, fun _ h => absurd h List.not_mem_nil⟩⟩⟩, by decide +kernel, by decide +kernel, by decide +kernel⟩
theorem wok_X7_doGroup : wok M_X7_doGroup := ⟨show ∀ w ∈ [Cond.instanceMethod yX7_doGroup, Cond.selects RX7 yX7_doGroup yX7_doGroup, Cond.initialized RX7, Cond.code yX7_doGroup cX7_doGroup 6 (some .boolean)], w ∈ BIG from List.forall_mem_cons.mpr ⟨bk_926, List.forall_mem_cons.mpr ⟨bk_7, List.forall_mem_cons.mpr ⟨bk_63, List.forall_mem_cons.mpr ⟨bk_927, fun _ h => absurd h List.not_mem_nil⟩⟩⟩⟩, by decide +kernel, by decide +kernel, by decide +kernel⟩
theorem wok_X7_doTurn : wok M_X7_doTurn := ⟨show ∀ w ∈ [Cond.instanceMethod yX7_doTurn, Cond.selects RX7 yX7_doTurn yX7_doTurn, Cond.initialized RX7, Cond.code yX7_doTurn cX7_doTurn 4 none], w ∈ BIG from List.forall_mem_cons.mpr ⟨bk_940, List.forall_mem_cons.mpr ⟨bk_8, List.forall_mem_cons.mpr ⟨bk_63, List.forall_mem_cons.mpr ⟨bk_941, fun _ h => absurd h List.not_mem_nil⟩⟩⟩⟩, by decide +kernel, by decide +kernel, by decide +kernel⟩
theorem wok_X8_init : wok M_X8_init := ⟨show ∀ w ∈ [Cond.instanceMethod yX8_init, Cond.initialized RX8, Cond.code yX8_init cX8_init 1 none], w ∈ BIG from List.forall_mem_cons.mpr ⟨bk_962, List.forall_mem_cons.mpr ⟨bk_72, List.forall_mem_cons.mpr ⟨bk_963, fun _ h => absurd h List.not_mem_nil⟩⟩⟩, by decide +kernel, by decide +kernel, by decide +kernel⟩
theorem wok_X8_thrown : wok M_X8_thrown := ⟨show ∀ w ∈ [Cond.instanceMethod yX8_thrown, Cond.selects RX8 yX8_thrown yX8_thrown, Cond.initialized RX8, Cond.code yX8_thrown cX8_thrown 1 (some .int)], w ∈ BIG from List.forall_mem_cons.mpr ⟨bk_1018, List.forall_mem_cons.mpr ⟨bk_1019, List.forall_mem_cons.mpr ⟨bk_72, List.forall_mem_cons.mpr ⟨bk_1020, fun _ h => absurd h List.not_mem_nil⟩⟩⟩⟩, by decide +kernel, by decide +kernel, by decide +kernel⟩
theorem wok_X8_in : wok M_X8_in := ⟨show ∀ w ∈ [Cond.static yX8_in, Cond.initialized RX8, Cond.code yX8_in cX8_in 3 (some .boolean)], w ∈ BIG from List.forall_mem_cons.mpr ⟨bk_1026, List.forall_mem_cons.mpr ⟨bk_72, List.forall_mem_cons.mpr ⟨bk_1027, fun _ h => absurd h List.not_mem_nil⟩⟩⟩, by decide +kernel, by decide +kernel, by decide +kernel⟩
theorem wok_X8_holds : wok M_X8_holds := ⟨show ∀ w ∈ [Cond.instanceMethod yX8_holds, Cond.selects RX8 yX8_holds yX8_holds, Cond.initialized RX8, Cond.code yX8_holds cX8_holds 2 (some .boolean)], w ∈ BIG from List.forall_mem_cons.mpr ⟨bk_1030, List.forall_mem_cons.mpr ⟨bk_9, List.forall_mem_cons.mpr ⟨bk_72, List.forall_mem_cons.mpr ⟨bk_1031, fun _ h => absurd h List.not_mem_nil⟩⟩⟩⟩, by decide +kernel, by decide +kernel, by decide +kernel⟩
theorem wok_X8_of : wok M_X8_of := ⟨show ∀ w ∈ [Cond.static yX8_of, Cond.initialized RX8, Cond.code yX8_of cX8_of 2 (some .int)], w ∈ BIG from List.forall_mem_cons.mpr ⟨bk_1092, List.forall_mem_cons.mpr ⟨bk_72, List.forall_mem_cons.mpr ⟨bk_1093, fun _ h => absurd h List.not_mem_nil⟩⟩⟩, by decide +kernel, by decide +kernel, by decide +kernel⟩
theorem wok_X8_isKey : wok M_X8_isKey := ⟨show ∀ w ∈ [Cond.static yX8_isKey, Cond.initialized RX8, Cond.code yX8_isKey cX8_isKey 1 (some .boolean)], w ∈ BIG from List.forall_mem_cons.mpr ⟨bk_1065, List.forall_mem_cons.mpr ⟨bk_72, List.forall_mem_cons.mpr ⟨bk_1066, fun _ h => absurd h List.not_mem_nil⟩⟩⟩, by decide +kernel, by decide +kernel, by decide +kernel⟩
theorem wok_X8_isRun : wok M_X8_isRun := ⟨show ∀ w ∈ [Cond.instanceMethod yX8_isRun, Cond.selects RX8 yX8_isRun yX8_isRun, Cond.initialized RX8, Cond.code yX8_isRun cX8_isRun 2 (some .boolean)], w ∈ BIG from List.forall_mem_cons.mpr ⟨bk_1128, List.forall_mem_cons.mpr ⟨bk_30, List.forall_mem_cons.mpr ⟨bk_72, List.forall_mem_cons.mpr ⟨bk_1129, fun _ h => absurd h List.not_mem_nil⟩⟩⟩⟩, by decide +kernel, by decide +kernel, by decide +kernel⟩
theorem wok_X8_isEye : wok M_X8_isEye := ⟨show ∀ w ∈ [Cond.instanceMethod yX8_isEye, Cond.selects RX8 yX8_isEye yX8_isEye, Cond.initialized RX8, Cond.code yX8_isEye cX8_isEye 2 (some .boolean)], w ∈ BIG from List.forall_mem_cons.mpr ⟨bk_1132, List.forall_mem_cons.mpr ⟨bk_31, List.forall_mem_cons.mpr ⟨bk_72, List.forall_mem_cons.mpr ⟨bk_1133, fun _ h => absurd h List.not_mem_nil⟩⟩⟩⟩, by decide +kernel, by decide +kernel, by decide +kernel⟩
theorem wok_X8_remember : wok M_X8_remember := ⟨show ∀ w ∈ [Cond.instanceMethod yX8_remember, Cond.selects RX8 yX8_remember yX8_remember, Cond.initialized RX8, Cond.code yX8_remember cX8_remember 2 none], w ∈ BIG from List.forall_mem_cons.mpr ⟨bk_1236, List.forall_mem_cons.mpr ⟨bk_50, List.forall_mem_cons.mpr ⟨bk_72, List.forall_mem_cons.mpr ⟨bk_1237, fun _ h => absurd h List.not_mem_nil⟩⟩⟩⟩, by decide +kernel, by decide +kernel, by decide +kernel⟩
theorem wok_X8_putAside : wok M_X8_putAside := ⟨show ∀ w ∈ [Cond.instanceMethod yX8_putAside, Cond.selects RX8 yX8_putAside yX8_putAside, Cond.initialized RX8, Cond.code yX8_putAside cX8_putAside 2 none], w ∈ BIG from List.forall_mem_cons.mpr ⟨bk_1329, List.forall_mem_cons.mpr ⟨bk_57, List.forall_mem_cons.mpr ⟨bk_72, List.forall_mem_cons.mpr ⟨bk_1330, fun _ h => absurd h List.not_mem_nil⟩⟩⟩⟩, by decide +kernel, by decide +kernel, by decide +kernel⟩
theorem wok_X8_putBack : wok M_X8_putBack := ⟨show ∀ w ∈ [Cond.instanceMethod yX8_putBack, Cond.selects RX8 yX8_putBack yX8_putBack, Cond.initialized RX8, Cond.code yX8_putBack cX8_putBack 2 none], w ∈ BIG from List.forall_mem_cons.mpr ⟨bk_1337, List.forall_mem_cons.mpr ⟨bk_59, List.forall_mem_cons.mpr ⟨bk_72, List.forall_mem_cons.mpr ⟨bk_1338, fun _ h => absurd h List.not_mem_nil⟩⟩⟩⟩, by decide +kernel, by decide +kernel, by decide +kernel⟩
theorem wok_X8_begin : wok M_X8_begin := ⟨show ∀ w ∈ [Cond.instanceMethod yX8_begin, Cond.selects RX8 yX8_begin yX8_begin, Cond.initialized RX8, Cond.code yX8_begin cX8_begin 4 (some .int)], w ∈ BIG from List.forall_mem_cons.mpr ⟨bk_1073, List.forall_mem_cons.mpr ⟨bk_17, List.forall_mem_cons.mpr ⟨bk_72, List.forall_mem_cons.mpr ⟨bk_1074, fun _ h => absurd h List.not_mem_nil⟩⟩⟩⟩, by decide +kernel, by decide +kernel, by decide +kernel⟩
theorem wok_X8_manyIn : wok M_X8_manyIn := ⟨show ∀ w ∈ [Cond.instanceMethod yX8_manyIn, Cond.selects RX8 yX8_manyIn yX8_manyIn, Cond.initialized RX8, Cond.code yX8_manyIn cX8_manyIn 2 (some .int)], w ∈ BIG from List.forall_mem_cons.mpr ⟨bk_1216, List.forall_mem_cons.mpr ⟨bk_48, List.forall_mem_cons.mpr ⟨bk_72, List.forall_mem_cons.mpr ⟨bk_1217, fun _ h => absurd h List.not_mem_nil⟩⟩⟩⟩, by decide +kernel, by decide +kernel, by decide +kernel⟩
theorem wok_X8_all : wok M_X8_all := ⟨show ∀ w ∈ [Cond.instanceMethod yX8_all, Cond.selects RX8 yX8_all yX8_all, Cond.initialized RX8, Cond.code yX8_all cX8_all 1 (some .int)], w ∈ BIG from List.forall_mem_cons.mpr ⟨bk_1069, List.forall_mem_cons.mpr ⟨bk_16, List.forall_mem_cons.mpr ⟨bk_72, List.forall_mem_cons.mpr ⟨bk_1070, fun _ h => absurd h List.not_mem_nil⟩⟩⟩⟩, by decide +kernel, by decide +kernel, by decide +kernel⟩
theorem wok_X8_concerns : wok M_X8_concerns := ⟨show ∀ w ∈ [Cond.instanceMethod yX8_concerns, Cond.selects RX8 yX8_concerns yX8_concerns, Cond.initialized RX8, Cond.code yX8_concerns cX8_concerns 3 (some .boolean)], w ∈ BIG from List.forall_mem_cons.mpr ⟨bk_1100, List.forall_mem_cons.mpr ⟨bk_23, List.forall_mem_cons.mpr ⟨bk_72, List.forall_mem_cons.mpr ⟨bk_1101, fun _ h => absurd h List.not_mem_nil⟩⟩⟩⟩, by decide +kernel, by decide +kernel, by decide +kernel⟩
theorem wok_X8_isEntry : wok M_X8_isEntry := ⟨show ∀ w ∈ [Cond.instanceMethod yX8_isEntry, Cond.selects RX8 yX8_isEntry yX8_isEntry, Cond.initialized RX8, Cond.code yX8_isEntry cX8_isEntry 2 (some .boolean)], w ∈ BIG from List.forall_mem_cons.mpr ⟨bk_1089, List.forall_mem_cons.mpr ⟨bk_21, List.forall_mem_cons.mpr ⟨bk_72, List.forall_mem_cons.mpr ⟨bk_1090, fun _ h => absurd h List.not_mem_nil⟩⟩⟩⟩, by decide +kernel, by decide +kernel, by decide +kernel⟩
theorem wok_X8_newest : wok M_X8_newest := ⟨show ∀ w ∈ [Cond.instanceMethod yX8_newest, Cond.selects RX8 yX8_newest yX8_newest, Cond.initialized RX8, Cond.code yX8_newest cX8_newest 6 (some .int)], w ∈ BIG from List.forall_mem_cons.mpr ⟨bk_1156, List.forall_mem_cons.mpr ⟨bk_37, List.forall_mem_cons.mpr ⟨bk_72, List.forall_mem_cons.mpr ⟨bk_1157, fun _ h => absurd h List.not_mem_nil⟩⟩⟩⟩, by decide +kernel, by decide +kernel, by decide +kernel⟩
theorem wok_X8_upTo : wok M_X8_upTo := ⟨show ∀ w ∈ [Cond.instanceMethod yX8_upTo, Cond.selects RX8 yX8_upTo yX8_upTo, Cond.initialized RX8, Cond.code yX8_upTo cX8_upTo 2 (some .int)], w ∈ BIG from List.forall_mem_cons.mpr ⟨bk_1152, List.forall_mem_cons.mpr ⟨bk_36, List.forall_mem_cons.mpr ⟨bk_72, List.forall_mem_cons.mpr ⟨bk_1153, fun _ h => absurd h List.not_mem_nil⟩⟩⟩⟩, by decide +kernel, by decide +kernel, by decide +kernel⟩
theorem wok_X8_seen : wok M_X8_seen := ⟨show ∀ w ∈ [Cond.instanceMethod yX8_seen, Cond.selects RX8 yX8_seen yX8_seen, Cond.initialized RX8, Cond.code yX8_seen cX8_seen 4 (some .int)], w ∈ BIG from List.forall_mem_cons.mpr ⟨bk_1148, List.forall_mem_cons.mpr ⟨bk_35, List.forall_mem_cons.mpr ⟨bk_72, List.forall_mem_cons.mpr ⟨bk_1149, fun _ h => absurd h List.not_mem_nil⟩⟩⟩⟩, by decide +kernel, by decide +kernel, by decide +kernel⟩
theorem wok_X8_countSeen : wok M_X8_countSeen := ⟨show ∀ w ∈ [Cond.instanceMethod yX8_countSeen, Cond.selects RX8 yX8_countSeen yX8_countSeen, Cond.initialized RX8, Cond.code yX8_countSeen cX8_countSeen 6 (some .int)], w ∈ BIG from List.forall_mem_cons.mpr ⟨bk_1144, List.forall_mem_cons.mpr ⟨bk_34, List.forall_mem_cons.mpr ⟨bk_72, List.forall_mem_cons.mpr ⟨bk_1145, fun _ h => absurd h List.not_mem_nil⟩⟩⟩⟩, by decide +kernel, by decide +kernel, by decide +kernel⟩
theorem wok_X8_areParted : wok M_X8_areParted := ⟨show ∀ w ∈ [Cond.instanceMethod yX8_areParted, Cond.selects RX8 yX8_areParted yX8_areParted, Cond.initialized RX8, Cond.code yX8_areParted cX8_areParted 5 (some .boolean)], w ∈ BIG from List.forall_mem_cons.mpr ⟨bk_1104, List.forall_mem_cons.mpr ⟨bk_24, List.forall_mem_cons.mpr ⟨bk_72, List.forall_mem_cons.mpr ⟨bk_1105, fun _ h => absurd h List.not_mem_nil⟩⟩⟩⟩, by decide +kernel, by decide +kernel, by decide +kernel⟩
theorem wok_X8_isCovered : wok M_X8_isCovered := ⟨show ∀ w ∈ [Cond.instanceMethod yX8_isCovered, Cond.selects RX8 yX8_isCovered yX8_isCovered, Cond.initialized RX8, Cond.code yX8_isCovered cX8_isCovered 9 (some .boolean)], w ∈ BIG from List.forall_mem_cons.mpr ⟨bk_1096, List.forall_mem_cons.mpr ⟨bk_22, List.forall_mem_cons.mpr ⟨bk_72, List.forall_mem_cons.mpr ⟨bk_1097, fun _ h => absurd h List.not_mem_nil⟩⟩⟩⟩, by decide +kernel, by decide +kernel, by decide +kernel⟩
theorem wok_X8_hasOlderEntry : wok M_X8_hasOlderEntry := ⟨show ∀ w ∈ [Cond.instanceMethod yX8_hasOlderEntry, Cond.selects RX8 yX8_hasOlderEntry yX8_hasOlderEntry, Cond.initialized RX8, Cond.code yX8_hasOlderEntry cX8_hasOlderEntry 7 (some .boolean)], w ∈ BIG from List.forall_mem_cons.mpr ⟨bk_1116, List.forall_mem_cons.mpr ⟨bk_27, List.forall_mem_cons.mpr ⟨bk_72, List.forall_mem_cons.mpr ⟨bk_1117, fun _ h => absurd h List.not_mem_nil⟩⟩⟩⟩, by decide +kernel, by decide +kernel, by decide +kernel⟩
theorem wok_X8_leave : wok M_X8_leave := ⟨show ∀ w ∈ [Cond.instanceMethod yX8_leave, Cond.selects RX8 yX8_leave yX8_leave, Cond.initialized RX8, Cond.code yX8_leave cX8_leave 4 none], w ∈ BIG from List.forall_mem_cons.mpr ⟨bk_1108, List.forall_mem_cons.mpr ⟨bk_25, List.forall_mem_cons.mpr ⟨bk_72, List.forall_mem_cons.mpr ⟨bk_1109, fun _ h => absurd h List.not_mem_nil⟩⟩⟩⟩, by decide +kernel, by decide +kernel, by decide +kernel⟩
theorem wok_X8_clean : wok M_X8_clean := ⟨show ∀ w ∈ [Cond.instanceMethod yX8_clean, Cond.selects RX8 yX8_clean yX8_clean, Cond.initialized RX8, Cond.code yX8_clean cX8_clean 5 none], w ∈ BIG from List.forall_mem_cons.mpr ⟨bk_1085, List.forall_mem_cons.mpr ⟨bk_20, List.forall_mem_cons.mpr ⟨bk_72, List.forall_mem_cons.mpr ⟨bk_1086, fun _ h => absurd h List.not_mem_nil⟩⟩⟩⟩, by decide +kernel, by decide +kernel, by decide +kernel⟩
theorem wok_X8_cut : wok M_X8_cut := ⟨show ∀ w ∈ [Cond.instanceMethod yX8_cut, Cond.selects RX8 yX8_cut yX8_cut, Cond.initialized RX8, Cond.code yX8_cut cX8_cut 8 none], w ∈ BIG from List.forall_mem_cons.mpr ⟨bk_1112, List.forall_mem_cons.mpr ⟨bk_26, List.forall_mem_cons.mpr ⟨bk_72, List.forall_mem_cons.mpr ⟨bk_1113, fun _ h => absurd h List.not_mem_nil⟩⟩⟩⟩, by decide +kernel, by decide +kernel, by decide +kernel⟩
theorem wok_X8_replace : wok M_X8_replace := ⟨show ∀ w ∈ [Cond.instanceMethod yX8_replace, Cond.selects RX8 yX8_replace yX8_replace, Cond.initialized RX8, Cond.code yX8_replace cX8_replace 7 none], w ∈ BIG from List.forall_mem_cons.mpr ⟨bk_1164, List.forall_mem_cons.mpr ⟨bk_39, List.forall_mem_cons.mpr ⟨bk_72, List.forall_mem_cons.mpr ⟨bk_1165, fun _ h => absurd h List.not_mem_nil⟩⟩⟩⟩, by decide +kernel, by decide +kernel, by decide +kernel⟩
theorem wok_X8_isRoomFor : wok M_X8_isRoomFor := ⟨show ∀ w ∈ [Cond.instanceMethod yX8_isRoomFor, Cond.selects RX8 yX8_isRoomFor yX8_isRoomFor, Cond.initialized RX8, Cond.code yX8_isRoomFor cX8_isRoomFor 3 (some .boolean)], w ∈ BIG from List.forall_mem_cons.mpr ⟨bk_1120, List.forall_mem_cons.mpr ⟨bk_28, List.forall_mem_cons.mpr ⟨bk_72, List.forall_mem_cons.mpr ⟨bk_1121, fun _ h => absurd h List.not_mem_nil⟩⟩⟩⟩, by decide +kernel, by decide +kernel, by decide +kernel⟩
theorem wok_X8_putFault : wok M_X8_putFault := ⟨show ∀ w ∈ [Cond.instanceMethod yX8_putFault, Cond.selects RX8 yX8_putFault yX8_putFault, Cond.initialized RX8, Cond.code yX8_putFault cX8_putFault 3 (some .int)], w ∈ BIG from List.forall_mem_cons.mpr ⟨bk_1062, List.forall_mem_cons.mpr ⟨bk_15, List.forall_mem_cons.mpr ⟨bk_72, List.forall_mem_cons.mpr ⟨bk_1063, fun _ h => absurd h List.not_mem_nil⟩⟩⟩⟩, by decide +kernel, by decide +kernel, by decide +kernel⟩
theorem wok_X8_writes : wok M_X8_writes := ⟨show ∀ w ∈ [Cond.instanceMethod yX8_writes, Cond.selects RX8 yX8_writes yX8_writes, Cond.initialized RX8, Cond.code yX8_writes cX8_writes 5 (some .int)], w ∈ BIG from List.forall_mem_cons.mpr ⟨bk_1136, List.forall_mem_cons.mpr ⟨bk_32, List.forall_mem_cons.mpr ⟨bk_72, List.forall_mem_cons.mpr ⟨bk_1137, fun _ h => absurd h List.not_mem_nil⟩⟩⟩⟩, by decide +kernel, by decide +kernel, by decide +kernel⟩
theorem wok_X8_buryFault : wok M_X8_buryFault := ⟨show ∀ w ∈ [Cond.instanceMethod yX8_buryFault, Cond.selects RX8 yX8_buryFault yX8_buryFault, Cond.initialized RX8, Cond.code yX8_buryFault cX8_buryFault 3 (some .int)], w ∈ BIG from List.forall_mem_cons.mpr ⟨bk_1077, List.forall_mem_cons.mpr ⟨bk_18, List.forall_mem_cons.mpr ⟨bk_72, List.forall_mem_cons.mpr ⟨bk_1078, fun _ h => absurd h List.not_mem_nil⟩⟩⟩⟩, by decide +kernel, by decide +kernel, by decide +kernel⟩
theorem wok_X8_buries : wok M_X8_buries := ⟨show ∀ w ∈ [Cond.instanceMethod yX8_buries, Cond.selects RX8 yX8_buries yX8_buries, Cond.initialized RX8, Cond.code yX8_buries cX8_buries 5 (some .int)], w ∈ BIG from List.forall_mem_cons.mpr ⟨bk_1140, List.forall_mem_cons.mpr ⟨bk_33, List.forall_mem_cons.mpr ⟨bk_72, List.forall_mem_cons.mpr ⟨bk_1141, fun _ h => absurd h List.not_mem_nil⟩⟩⟩⟩, by decide +kernel, by decide +kernel, by decide +kernel⟩
theorem wok_X8_opens : wok M_X8_opens := ⟨show ∀ w ∈ [Cond.instanceMethod yX8_opens, Cond.selects RX8 yX8_opens yX8_opens, Cond.initialized RX8, Cond.code yX8_opens cX8_opens 1 (some .int)], w ∈ BIG from List.forall_mem_cons.mpr ⟨bk_1172, List.forall_mem_cons.mpr ⟨bk_41, List.forall_mem_cons.mpr ⟨bk_72, List.forall_mem_cons.mpr ⟨bk_1173, fun _ h => absurd h List.not_mem_nil⟩⟩⟩⟩, by decide +kernel, by decide +kernel, by decide +kernel⟩
theorem wok_X8_closes : wok M_X8_closes := ⟨show ∀ w ∈ [Cond.instanceMethod yX8_closes, Cond.selects RX8 yX8_closes yX8_closes, Cond.initialized RX8, Cond.code yX8_closes cX8_closes 2 (some .int)], w ∈ BIG from List.forall_mem_cons.mpr ⟨bk_1176, List.forall_mem_cons.mpr ⟨bk_42, List.forall_mem_cons.mpr ⟨bk_72, List.forall_mem_cons.mpr ⟨bk_1177, fun _ h => absurd h List.not_mem_nil⟩⟩⟩⟩, by decide +kernel, by decide +kernel, by decide +kernel⟩
theorem wok_X8_flushFault : wok M_X8_flushFault := ⟨show ∀ w ∈ [Cond.instanceMethod yX8_flushFault, Cond.selects RX8 yX8_flushFault yX8_flushFault, Cond.initialized RX8, Cond.code yX8_flushFault cX8_flushFault 1 (some .int)], w ∈ BIG from List.forall_mem_cons.mpr ⟨bk_1081, List.forall_mem_cons.mpr ⟨bk_19, List.forall_mem_cons.mpr ⟨bk_72, List.forall_mem_cons.mpr ⟨bk_1082, fun _ h => absurd h List.not_mem_nil⟩⟩⟩⟩, by decide +kernel, by decide +kernel, by decide +kernel⟩
theorem wok_X8_flushes : wok M_X8_flushes := ⟨show ∀ w ∈ [Cond.instanceMethod yX8_flushes, Cond.selects RX8 yX8_flushes yX8_flushes, Cond.initialized RX8, Cond.code yX8_flushes cX8_flushes 2 (some .int)], w ∈ BIG from List.forall_mem_cons.mpr ⟨bk_1160, List.forall_mem_cons.mpr ⟨bk_38, List.forall_mem_cons.mpr ⟨bk_72, List.forall_mem_cons.mpr ⟨bk_1161, fun _ h => absurd h List.not_mem_nil⟩⟩⟩⟩, by decide +kernel, by decide +kernel, by decide +kernel⟩
theorem wok_X8_mergeFault : wok M_X8_mergeFault := ⟨show ∀ w ∈ [Cond.instanceMethod yX8_mergeFault, Cond.selects RX8 yX8_mergeFault yX8_mergeFault, Cond.initialized RX8, Cond.code yX8_mergeFault cX8_mergeFault 4 (some .int)], w ∈ BIG from List.forall_mem_cons.mpr ⟨bk_1124, List.forall_mem_cons.mpr ⟨bk_29, List.forall_mem_cons.mpr ⟨bk_72, List.forall_mem_cons.mpr ⟨bk_1125, fun _ h => absurd h List.not_mem_nil⟩⟩⟩⟩, by decide +kernel, by decide +kernel, by decide +kernel⟩
theorem wok_X8_merges : wok M_X8_merges := ⟨show ∀ w ∈ [Cond.instanceMethod yX8_merges, Cond.selects RX8 yX8_merges yX8_merges, Cond.initialized RX8, Cond.code yX8_merges cX8_merges 4 (some .int)], w ∈ BIG from List.forall_mem_cons.mpr ⟨bk_1168, List.forall_mem_cons.mpr ⟨bk_40, List.forall_mem_cons.mpr ⟨bk_72, List.forall_mem_cons.mpr ⟨bk_1169, fun _ h => absurd h List.not_mem_nil⟩⟩⟩⟩, by decide +kernel, by decide +kernel, by decide +kernel⟩
theorem wok_X8_append : wok M_X8_append := ⟨show ∀ w ∈ [Cond.instanceMethod yX8_append, Cond.selects RX8 yX8_append yX8_append, Cond.initialized RX8, Cond.code yX8_append cX8_append 2 (some .int)], w ∈ BIG from List.forall_mem_cons.mpr ⟨bk_1022, List.forall_mem_cons.mpr ⟨bk_1023, List.forall_mem_cons.mpr ⟨bk_72, List.forall_mem_cons.mpr ⟨bk_1024, fun _ h => absurd h List.not_mem_nil⟩⟩⟩⟩, by decide +kernel, by decide +kernel, by decide +kernel⟩
theorem wok_X8_clearText : wok M_X8_clearText := ⟨show ∀ w ∈ [Cond.instanceMethod yX8_clearText, Cond.selects RX8 yX8_clearText yX8_clearText, Cond.initialized RX8, Cond.code yX8_clearText cX8_clearText 2 (some .int)], w ∈ BIG from List.forall_mem_cons.mpr ⟨bk_1033, List.forall_mem_cons.mpr ⟨bk_1034, List.forall_mem_cons.mpr ⟨bk_72, List.forall_mem_cons.mpr ⟨bk_1035, fun _ h => absurd h List.not_mem_nil⟩⟩⟩⟩, by decide +kernel, by decide +kernel, by decide +kernel⟩
theorem wok_X8_sign : wok M_X8_sign := ⟨show ∀ w ∈ [Cond.instanceMethod yX8_sign, Cond.selects RX8 yX8_sign yX8_sign, Cond.initialized RX8, Cond.code yX8_sign cX8_sign 4 (some .int)], w ∈ BIG from List.forall_mem_cons.mpr ⟨bk_1046, List.forall_mem_cons.mpr ⟨bk_11, List.forall_mem_cons.mpr ⟨bk_72, List.forall_mem_cons.mpr ⟨bk_1047, fun _ h => absurd h List.not_mem_nil⟩⟩⟩⟩, by decide +kernel, by decide +kernel, by decide +kernel⟩
theorem wok_X8_key : wok M_X8_key := ⟨show ∀ w ∈ [Cond.instanceMethod yX8_key, Cond.selects RX8 yX8_key yX8_key, Cond.initialized RX8, Cond.code yX8_key cX8_key 2 (some .int)], w ∈ BIG from List.forall_mem_cons.mpr ⟨bk_1054, List.forall_mem_cons.mpr ⟨bk_13, List.forall_mem_cons.mpr ⟨bk_72, List.forall_mem_cons.mpr ⟨bk_1055, fun _ h => absurd h List.not_mem_nil⟩⟩⟩⟩, by decide +kernel, by decide +kernel, by decide +kernel⟩
theorem wok_X8_command : wok M_X8_command := ⟨show ∀ w ∈ [Cond.instanceMethod yX8_command, Cond.selects RX8 yX8_command yX8_command, Cond.initialized RX8, Cond.code yX8_command cX8_command 2 none], w ∈ BIG from List.forall_mem_cons.mpr ⟨bk_1050, List.forall_mem_cons.mpr ⟨bk_12, List.forall_mem_cons.mpr ⟨bk_72, List.forall_mem_cons.mpr ⟨bk_1051, fun _ h => absurd h List.not_mem_nil⟩⟩⟩⟩, by decide +kernel, by decide +kernel, by decide +kernel⟩
theorem wok_X8_does : wok M_X8_does := ⟨show ∀ w ∈ [Cond.instanceMethod yX8_does, Cond.selects RX8 yX8_does yX8_does, Cond.initialized RX8, Cond.code yX8_does cX8_does 4 (some .boolean)], w ∈ BIG from List.forall_mem_cons.mpr ⟨bk_1058, List.forall_mem_cons.mpr ⟨bk_14, List.forall_mem_cons.mpr ⟨bk_72, List.forall_mem_cons.mpr ⟨bk_1059, fun _ h => absurd h List.not_mem_nil⟩⟩⟩⟩, by decide +kernel, by decide +kernel, by decide +kernel⟩
theorem wok_X8_go : wok M_X8_go := ⟨show ∀ w ∈ [Cond.instanceMethod yX8_go, Cond.selects RX8 yX8_go yX8_go, Cond.initialized RX8, Cond.code yX8_go cX8_go 4 (some .int)], w ∈ BIG from List.forall_mem_cons.mpr ⟨bk_1042, List.forall_mem_cons.mpr ⟨bk_10, List.forall_mem_cons.mpr ⟨bk_72, List.forall_mem_cons.mpr ⟨bk_1043, fun _ h => absurd h List.not_mem_nil⟩⟩⟩⟩, by decide +kernel, by decide +kernel, by decide +kernel⟩
theorem wok_X8_errorPosition : wok M_X8_errorPosition := ⟨show ∀ w ∈ [Cond.instanceMethod yX8_errorPosition, Cond.selects RX8 yX8_errorPosition yX8_errorPosition, Cond.initialized RX8, Cond.code yX8_errorPosition cX8_errorPosition 2 (some .int)], w ∈ BIG from List.forall_mem_cons.mpr ⟨bk_1037, List.forall_mem_cons.mpr ⟨bk_1038, List.forall_mem_cons.mpr ⟨bk_72, List.forall_mem_cons.mpr ⟨bk_1039, fun _ h => absurd h List.not_mem_nil⟩⟩⟩⟩, by decide +kernel, by decide +kernel, by decide +kernel⟩
theorem wok_X8_load : wok M_X8_load := ⟨show ∀ w ∈ [Cond.instanceMethod yX8_load, Cond.selects RX8 yX8_load yX8_load, Cond.initialized RX8, Cond.code yX8_load cX8_load 3 (some .int)], w ∈ BIG from List.forall_mem_cons.mpr ⟨bk_1179, List.forall_mem_cons.mpr ⟨bk_1180, List.forall_mem_cons.mpr ⟨bk_72, List.forall_mem_cons.mpr ⟨bk_1181, fun _ h => absurd h List.not_mem_nil⟩⟩⟩⟩, by decide +kernel, by decide +kernel, by decide +kernel⟩
theorem wok_X8_sumSeen : wok M_X8_sumSeen := ⟨show ∀ w ∈ [Cond.instanceMethod yX8_sumSeen, Cond.selects RX8 yX8_sumSeen yX8_sumSeen, Cond.initialized RX8, Cond.code yX8_sumSeen cX8_sumSeen 4 (some .int)], w ∈ BIG from List.forall_mem_cons.mpr ⟨bk_1196, List.forall_mem_cons.mpr ⟨bk_45, List.forall_mem_cons.mpr ⟨bk_72, List.forall_mem_cons.mpr ⟨bk_1197, fun _ h => absurd h List.not_mem_nil⟩⟩⟩⟩, by decide +kernel, by decide +kernel, by decide +kernel⟩
theorem wok_X8_kinds : wok M_X8_kinds := ⟨show ∀ w ∈ [Cond.instanceMethod yX8_kinds, Cond.selects RX8 yX8_kinds yX8_kinds, Cond.initialized RX8, Cond.code yX8_kinds cX8_kinds 6 (some .int)], w ∈ BIG from List.forall_mem_cons.mpr ⟨bk_1192, List.forall_mem_cons.mpr ⟨bk_44, List.forall_mem_cons.mpr ⟨bk_72, List.forall_mem_cons.mpr ⟨bk_1193, fun _ h => absurd h List.not_mem_nil⟩⟩⟩⟩, by decide +kernel, by decide +kernel, by decide +kernel⟩
theorem wok_X8_told : wok M_X8_told := ⟨show ∀ w ∈ [Cond.instanceMethod yX8_told, Cond.selects RX8 yX8_told yX8_told, Cond.initialized RX8, Cond.code yX8_told cX8_told 2 (some .int)], w ∈ BIG from List.forall_mem_cons.mpr ⟨bk_1188, List.forall_mem_cons.mpr ⟨bk_43, List.forall_mem_cons.mpr ⟨bk_72, List.forall_mem_cons.mpr ⟨bk_1189, fun _ h => absurd h List.not_mem_nil⟩⟩⟩⟩, by decide +kernel, by decide +kernel, by decide +kernel⟩
theorem wok_X8_about : wok M_X8_about := ⟨show ∀ w ∈ [Cond.instanceMethod yX8_about, Cond.selects RX8 yX8_about yX8_about, Cond.initialized RX8, Cond.code yX8_about cX8_about 2 (some .int)], w ∈ BIG from List.forall_mem_cons.mpr ⟨bk_1183, List.forall_mem_cons.mpr ⟨bk_1184, List.forall_mem_cons.mpr ⟨bk_72, List.forall_mem_cons.mpr ⟨bk_1185, fun _ h => absurd h List.not_mem_nil⟩⟩⟩⟩, by decide +kernel, by decide +kernel, by decide +kernel⟩
theorem wok_X8_isView : wok M_X8_isView := ⟨show ∀ w ∈ [Cond.instanceMethod yX8_isView, Cond.selects RX8 yX8_isView yX8_isView, Cond.initialized RX8, Cond.code yX8_isView cX8_isView 2 (some .boolean)], w ∈ BIG from List.forall_mem_cons.mpr ⟨bk_1204, List.forall_mem_cons.mpr ⟨bk_46, List.forall_mem_cons.mpr ⟨bk_72, List.forall_mem_cons.mpr ⟨bk_1205, fun _ h => absurd h List.not_mem_nil⟩⟩⟩⟩, by decide +kernel, by decide +kernel, by decide +kernel⟩
theorem wok_X8_get : wok M_X8_get := ⟨show ∀ w ∈ [Cond.instanceMethod yX8_get, Cond.selects RX8 yX8_get yX8_get, Cond.initialized RX8, Cond.code yX8_get cX8_get 3 (some .int)], w ∈ BIG from List.forall_mem_cons.mpr ⟨bk_1199, List.forall_mem_cons.mpr ⟨bk_1200, List.forall_mem_cons.mpr ⟨bk_72, List.forall_mem_cons.mpr ⟨bk_1201, fun _ h => absurd h List.not_mem_nil⟩⟩⟩⟩, by decide +kernel, by decide +kernel, by decide +kernel⟩
theorem wok_X8_keysOf : wok M_X8_keysOf := ⟨show ∀ w ∈ [Cond.instanceMethod yX8_keysOf, Cond.selects RX8 yX8_keysOf yX8_keysOf, Cond.initialized RX8, Cond.code yX8_keysOf cX8_keysOf 7 (some .int)], w ∈ BIG from List.forall_mem_cons.mpr ⟨bk_1220, List.forall_mem_cons.mpr ⟨bk_49, List.forall_mem_cons.mpr ⟨bk_72, List.forall_mem_cons.mpr ⟨bk_1221, fun _ h => absurd h List.not_mem_nil⟩⟩⟩⟩, by decide +kernel, by decide +kernel, by decide +kernel⟩
theorem wok_X8_ofRun : wok M_X8_ofRun := ⟨show ∀ w ∈ [Cond.instanceMethod yX8_ofRun, Cond.selects RX8 yX8_ofRun yX8_ofRun, Cond.initialized RX8, Cond.code yX8_ofRun cX8_ofRun 5 (some .int)], w ∈ BIG from List.forall_mem_cons.mpr ⟨bk_1212, List.forall_mem_cons.mpr ⟨bk_47, List.forall_mem_cons.mpr ⟨bk_72, List.forall_mem_cons.mpr ⟨bk_1213, fun _ h => absurd h List.not_mem_nil⟩⟩⟩⟩, by decide +kernel, by decide +kernel, by decide +kernel⟩
theorem wok_X8_run : wok M_X8_run := ⟨show ∀ w ∈ [Cond.instanceMethod yX8_run, Cond.selects RX8 yX8_run yX8_run, Cond.initialized RX8, Cond.code yX8_run cX8_run 3 (some .int)], w ∈ BIG from List.forall_mem_cons.mpr ⟨bk_1207, List.forall_mem_cons.mpr ⟨bk_1208, List.forall_mem_cons.mpr ⟨bk_72, List.forall_mem_cons.mpr ⟨bk_1209, fun _ h => absurd h List.not_mem_nil⟩⟩⟩⟩, by decide +kernel, by decide +kernel, by decide +kernel⟩
theorem wok_X8_write : wok M_X8_write := ⟨show ∀ w ∈ [Cond.instanceMethod yX8_write, Cond.selects RX8 yX8_write yX8_write, Cond.initialized RX8, Cond.code yX8_write cX8_write 5 (some .int)], w ∈ BIG from List.forall_mem_cons.mpr ⟨bk_1223, List.forall_mem_cons.mpr ⟨bk_1224, List.forall_mem_cons.mpr ⟨bk_72, List.forall_mem_cons.mpr ⟨bk_1225, fun _ h => absurd h List.not_mem_nil⟩⟩⟩⟩, by decide +kernel, by decide +kernel, by decide +kernel⟩
theorem wok_X8_eye : wok M_X8_eye := ⟨show ∀ w ∈ [Cond.instanceMethod yX8_eye, Cond.selects RX8 yX8_eye yX8_eye, Cond.initialized RX8, Cond.code yX8_eye cX8_eye 2 (some .int)], w ∈ BIG from List.forall_mem_cons.mpr ⟨bk_1227, List.forall_mem_cons.mpr ⟨bk_1228, List.forall_mem_cons.mpr ⟨bk_72, List.forall_mem_cons.mpr ⟨bk_1229, fun _ h => absurd h List.not_mem_nil⟩⟩⟩⟩, by decide +kernel, by decide +kernel, by decide +kernel⟩
theorem wok_X8_put : wok M_X8_put := ⟨show ∀ w ∈ [Cond.instanceMethod yX8_put, Cond.selects RX8 yX8_put yX8_put, Cond.initialized RX8, Cond.code yX8_put cX8_put 3 (some .int)], w ∈ BIG from List.forall_mem_cons.mpr ⟨bk_1231, List.forall_mem_cons.mpr ⟨bk_1232, List.forall_mem_cons.mpr ⟨bk_72, List.forall_mem_cons.mpr ⟨bk_1233, fun _ h => absurd h List.not_mem_nil⟩⟩⟩⟩, by decide +kernel, by decide +kernel, by decide +kernel⟩
theorem wok_X8_bury : wok M_X8_bury := ⟨show ∀ w ∈ [Cond.instanceMethod yX8_bury, Cond.selects RX8 yX8_bury yX8_bury, Cond.initialized RX8, Cond.code yX8_bury cX8_bury 3 (some .int)], w ∈ BIG from List.forall_mem_cons.mpr ⟨bk_1239, List.forall_mem_cons.mpr ⟨bk_1240, List.forall_mem_cons.mpr ⟨bk_72, List.forall_mem_cons.mpr ⟨bk_1241, fun _ h => absurd h List.not_mem_nil⟩⟩⟩⟩, by decide +kernel, by decide +kernel, by decide +kernel⟩
theorem wok_X8_open : wok M_X8_open := ⟨show ∀ w ∈ [Cond.instanceMethod yX8_open, Cond.selects RX8 yX8_open yX8_open, Cond.initialized RX8, Cond.code yX8_open cX8_open 1 (some .int)], w ∈ BIG from List.forall_mem_cons.mpr ⟨bk_1243, List.forall_mem_cons.mpr ⟨bk_1244, List.forall_mem_cons.mpr ⟨bk_72, List.forall_mem_cons.mpr ⟨bk_1245, fun _ h => absurd h List.not_mem_nil⟩⟩⟩⟩, by decide +kernel, by decide +kernel, by decide +kernel⟩
theorem wok_X8_close : wok M_X8_close := ⟨show ∀ w ∈ [Cond.instanceMethod yX8_close, Cond.selects RX8 yX8_close yX8_close, Cond.initialized RX8, Cond.code yX8_close cX8_close 2 (some .int)], w ∈ BIG from List.forall_mem_cons.mpr ⟨bk_1247, List.forall_mem_cons.mpr ⟨bk_1248, List.forall_mem_cons.mpr ⟨bk_72, List.forall_mem_cons.mpr ⟨bk_1249, fun _ h => absurd h List.not_mem_nil⟩⟩⟩⟩, by decide +kernel, by decide +kernel, by decide +kernel⟩
theorem wok_X8_flush : wok M_X8_flush := ⟨show ∀ w ∈ [Cond.instanceMethod yX8_flush, Cond.selects RX8 yX8_flush yX8_flush, Cond.initialized RX8, Cond.code yX8_flush cX8_flush 1 (some .int)], w ∈ BIG from List.forall_mem_cons.mpr ⟨bk_1251, List.forall_mem_cons.mpr ⟨bk_1252, List.forall_mem_cons.mpr ⟨bk_72, List.forall_mem_cons.mpr ⟨bk_1253, fun _ h => absurd h List.not_mem_nil⟩⟩⟩⟩, by decide +kernel, by decide +kernel, by decide +kernel⟩
theorem wok_X8_merge : wok M_X8_merge := ⟨show ∀ w ∈ [Cond.instanceMethod yX8_merge, Cond.selects RX8 yX8_merge yX8_merge, Cond.initialized RX8, Cond.code yX8_merge cX8_merge 2 (some .int)], w ∈ BIG from List.forall_mem_cons.mpr ⟨bk_1255, List.forall_mem_cons.mpr ⟨bk_1256, List.forall_mem_cons.mpr ⟨bk_72, List.forall_mem_cons.mpr ⟨bk_1257, fun _ h => absurd h List.not_mem_nil⟩⟩⟩⟩, by decide +kernel, by decide +kernel, by decide +kernel⟩
theorem wok_X8_undo : wok M_X8_undo := ⟨show ∀ w ∈ [Cond.instanceMethod yX8_undo, Cond.selects RX8 yX8_undo yX8_undo, Cond.initialized RX8, Cond.code yX8_undo cX8_undo 2 (some .int)], w ∈ BIG from List.forall_mem_cons.mpr ⟨bk_1259, List.forall_mem_cons.mpr ⟨bk_1260, List.forall_mem_cons.mpr ⟨bk_72, List.forall_mem_cons.mpr ⟨bk_1261, fun _ h => absurd h List.not_mem_nil⟩⟩⟩⟩, by decide +kernel, by decide +kernel, by decide +kernel⟩
theorem wok_X8_isIn : wok M_X8_isIn := ⟨show ∀ w ∈ [Cond.instanceMethod yX8_isIn, Cond.selects RX8 yX8_isIn yX8_isIn, Cond.initialized RX8, Cond.code yX8_isIn cX8_isIn 5 (some .boolean)], w ∈ BIG from List.forall_mem_cons.mpr ⟨bk_1272, List.forall_mem_cons.mpr ⟨bk_52, List.forall_mem_cons.mpr ⟨bk_72, List.forall_mem_cons.mpr ⟨bk_1273, fun _ h => absurd h List.not_mem_nil⟩⟩⟩⟩, by decide +kernel, by decide +kernel, by decide +kernel⟩
theorem wok_X8_lookedAt : wok M_X8_lookedAt := ⟨show ∀ w ∈ [Cond.instanceMethod yX8_lookedAt, Cond.selects RX8 yX8_lookedAt yX8_lookedAt, Cond.initialized RX8, Cond.code yX8_lookedAt cX8_lookedAt 4 (some .int)], w ∈ BIG from List.forall_mem_cons.mpr ⟨bk_1268, List.forall_mem_cons.mpr ⟨bk_51, List.forall_mem_cons.mpr ⟨bk_72, List.forall_mem_cons.mpr ⟨bk_1269, fun _ h => absurd h List.not_mem_nil⟩⟩⟩⟩, by decide +kernel, by decide +kernel, by decide +kernel⟩
theorem wok_X8_looks : wok M_X8_looks := ⟨show ∀ w ∈ [Cond.instanceMethod yX8_looks, Cond.selects RX8 yX8_looks yX8_looks, Cond.initialized RX8, Cond.code yX8_looks cX8_looks 2 (some .int)], w ∈ BIG from List.forall_mem_cons.mpr ⟨bk_1263, List.forall_mem_cons.mpr ⟨bk_1264, List.forall_mem_cons.mpr ⟨bk_72, List.forall_mem_cons.mpr ⟨bk_1265, fun _ h => absurd h List.not_mem_nil⟩⟩⟩⟩, by decide +kernel, by decide +kernel, by decide +kernel⟩
theorem wok_X8_nextSeen : wok M_X8_nextSeen := ⟨show ∀ w ∈ [Cond.instanceMethod yX8_nextSeen, Cond.selects RX8 yX8_nextSeen yX8_nextSeen, Cond.initialized RX8, Cond.code yX8_nextSeen cX8_nextSeen 4 (some .int)], w ∈ BIG from List.forall_mem_cons.mpr ⟨bk_1280, List.forall_mem_cons.mpr ⟨bk_53, List.forall_mem_cons.mpr ⟨bk_72, List.forall_mem_cons.mpr ⟨bk_1281, fun _ h => absurd h List.not_mem_nil⟩⟩⟩⟩, by decide +kernel, by decide +kernel, by decide +kernel⟩
theorem wok_X8_next : wok M_X8_next := ⟨show ∀ w ∈ [Cond.instanceMethod yX8_next, Cond.selects RX8 yX8_next yX8_next, Cond.initialized RX8, Cond.code yX8_next cX8_next 3 (some .int)], w ∈ BIG from List.forall_mem_cons.mpr ⟨bk_1275, List.forall_mem_cons.mpr ⟨bk_1276, List.forall_mem_cons.mpr ⟨bk_72, List.forall_mem_cons.mpr ⟨bk_1277, fun _ h => absurd h List.not_mem_nil⟩⟩⟩⟩, by decide +kernel, by decide +kernel, by decide +kernel⟩
theorem wok_X8_count : wok M_X8_count := ⟨show ∀ w ∈ [Cond.instanceMethod yX8_count, Cond.selects RX8 yX8_count yX8_count, Cond.initialized RX8, Cond.code yX8_count cX8_count 5 (some .int)], w ∈ BIG from List.forall_mem_cons.mpr ⟨bk_1283, List.forall_mem_cons.mpr ⟨bk_1284, List.forall_mem_cons.mpr ⟨bk_72, List.forall_mem_cons.mpr ⟨bk_1285, fun _ h => absurd h List.not_mem_nil⟩⟩⟩⟩, by decide +kernel, by decide +kernel, by decide +kernel⟩
theorem wok_X8_hidden : wok M_X8_hidden := ⟨show ∀ w ∈ [Cond.instanceMethod yX8_hidden, Cond.selects RX8 yX8_hidden yX8_hidden, Cond.initialized RX8, Cond.code yX8_hidden cX8_hidden 5 (some .int)], w ∈ BIG from List.forall_mem_cons.mpr ⟨bk_1287, List.forall_mem_cons.mpr ⟨bk_1288, List.forall_mem_cons.mpr ⟨bk_72, List.forall_mem_cons.mpr ⟨bk_1289, fun _ h => absurd h List.not_mem_nil⟩⟩⟩⟩, by decide +kernel, by decide +kernel, by decide +kernel⟩
theorem wok_X8_newestGrave : wok M_X8_newestGrave := ⟨show ∀ w ∈ [Cond.instanceMethod yX8_newestGrave, Cond.selects RX8 yX8_newestGrave yX8_newestGrave, Cond.initialized RX8, Cond.code yX8_newestGrave cX8_newestGrave 4 (some .int)], w ∈ BIG from List.forall_mem_cons.mpr ⟨bk_1296, List.forall_mem_cons.mpr ⟨bk_54, List.forall_mem_cons.mpr ⟨bk_72, List.forall_mem_cons.mpr ⟨bk_1297, fun _ h => absurd h List.not_mem_nil⟩⟩⟩⟩, by decide +kernel, by decide +kernel, by decide +kernel⟩
theorem wok_X8_grave : wok M_X8_grave := ⟨show ∀ w ∈ [Cond.instanceMethod yX8_grave, Cond.selects RX8 yX8_grave yX8_grave, Cond.initialized RX8, Cond.code yX8_grave cX8_grave 2 (some .int)], w ∈ BIG from List.forall_mem_cons.mpr ⟨bk_1291, List.forall_mem_cons.mpr ⟨bk_1292, List.forall_mem_cons.mpr ⟨bk_72, List.forall_mem_cons.mpr ⟨bk_1293, fun _ h => absurd h List.not_mem_nil⟩⟩⟩⟩, by decide +kernel, by decide +kernel, by decide +kernel⟩
theorem wok_X8_savedBy : wok M_X8_savedBy := ⟨show ∀ w ∈ [Cond.instanceMethod yX8_savedBy, Cond.selects RX8 yX8_savedBy yX8_savedBy, Cond.initialized RX8, Cond.code yX8_savedBy cX8_savedBy 2 (some .int)], w ∈ BIG from List.forall_mem_cons.mpr ⟨bk_1304, List.forall_mem_cons.mpr ⟨bk_55, List.forall_mem_cons.mpr ⟨bk_72, List.forall_mem_cons.mpr ⟨bk_1305, fun _ h => absurd h List.not_mem_nil⟩⟩⟩⟩, by decide +kernel, by decide +kernel, by decide +kernel⟩
theorem wok_X8_saves : wok M_X8_saves := ⟨show ∀ w ∈ [Cond.instanceMethod yX8_saves, Cond.selects RX8 yX8_saves yX8_saves, Cond.initialized RX8, Cond.code yX8_saves cX8_saves 2 (some .int)], w ∈ BIG from List.forall_mem_cons.mpr ⟨bk_1299, List.forall_mem_cons.mpr ⟨bk_1300, List.forall_mem_cons.mpr ⟨bk_72, List.forall_mem_cons.mpr ⟨bk_1301, fun _ h => absurd h List.not_mem_nil⟩⟩⟩⟩, by decide +kernel, by decide +kernel, by decide +kernel⟩
theorem wok_X8_best : wok M_X8_best := ⟨show ∀ w ∈ [Cond.instanceMethod yX8_best, Cond.selects RX8 yX8_best yX8_best, Cond.initialized RX8, Cond.code yX8_best cX8_best 6 (some .int)], w ∈ BIG from List.forall_mem_cons.mpr ⟨bk_1307, List.forall_mem_cons.mpr ⟨bk_1308, List.forall_mem_cons.mpr ⟨bk_72, List.forall_mem_cons.mpr ⟨bk_1309, fun _ h => absurd h List.not_mem_nil⟩⟩⟩⟩, by decide +kernel, by decide +kernel, by decide +kernel⟩
theorem wok_X8_fewest : wok M_X8_fewest := ⟨show ∀ w ∈ [Cond.instanceMethod yX8_fewest, Cond.selects RX8 yX8_fewest yX8_fewest, Cond.initialized RX8, Cond.code yX8_fewest cX8_fewest 1 (some .int)], w ∈ BIG from List.forall_mem_cons.mpr ⟨bk_1311, List.forall_mem_cons.mpr ⟨bk_1312, List.forall_mem_cons.mpr ⟨bk_72, List.forall_mem_cons.mpr ⟨bk_1313, fun _ h => absurd h List.not_mem_nil⟩⟩⟩⟩, by decide +kernel, by decide +kernel, by decide +kernel⟩
theorem wok_X8_doesWell : wok M_X8_doesWell := ⟨show ∀ w ∈ [Cond.instanceMethod yX8_doesWell, Cond.selects RX8 yX8_doesWell yX8_doesWell, Cond.initialized RX8, Cond.code yX8_doesWell cX8_doesWell 7 (some .boolean)], w ∈ BIG from List.forall_mem_cons.mpr ⟨bk_1333, List.forall_mem_cons.mpr ⟨bk_58, List.forall_mem_cons.mpr ⟨bk_72, List.forall_mem_cons.mpr ⟨bk_1334, fun _ h => absurd h List.not_mem_nil⟩⟩⟩⟩, by decide +kernel, by decide +kernel, by decide +kernel⟩
theorem wok_X8_ran : wok M_X8_ran := ⟨show ∀ w ∈ [Cond.instanceMethod yX8_ran, Cond.selects RX8 yX8_ran yX8_ran, Cond.initialized RX8, Cond.code yX8_ran cX8_ran 11 (some .int)], w ∈ BIG from List.forall_mem_cons.mpr ⟨bk_1323, List.forall_mem_cons.mpr ⟨bk_56, List.forall_mem_cons.mpr ⟨bk_72, List.forall_mem_cons.mpr ⟨bk_1324, fun _ h => absurd h List.not_mem_nil⟩⟩⟩⟩, by decide +kernel, by decide +kernel, by decide +kernel⟩
theorem wok_X8_runScript : wok M_X8_runScript := ⟨show ∀ w ∈ [Cond.instanceMethod yX8_runScript, Cond.selects RX8 yX8_runScript yX8_runScript, Cond.initialized RX8, Cond.code yX8_runScript cX8_runScript 6 (some .int)], w ∈ BIG from List.forall_mem_cons.mpr ⟨bk_1315, List.forall_mem_cons.mpr ⟨bk_1316, List.forall_mem_cons.mpr ⟨bk_72, List.forall_mem_cons.mpr ⟨bk_1317, fun _ h => absurd h List.not_mem_nil⟩⟩⟩⟩, by decide +kernel, by decide +kernel, by decide +kernel⟩
theorem wok_X8_turn : wok M_X8_turn := ⟨show ∀ w ∈ [Cond.instanceMethod yX8_turn, Cond.selects RX8 yX8_turn yX8_turn, Cond.initialized RX8, Cond.code yX8_turn cX8_turn 6 none], w ∈ BIG from List.forall_mem_cons.mpr ⟨bk_1351, List.forall_mem_cons.mpr ⟨bk_61, List.forall_mem_cons.mpr ⟨bk_72, List.forall_mem_cons.mpr ⟨bk_1352, fun _ h => absurd h List.not_mem_nil⟩⟩⟩⟩, by decide +kernel, by decide +kernel, by decide +kernel⟩
theorem wok_X8_simulated : wok M_X8_simulated := ⟨show ∀ w ∈ [Cond.instanceMethod yX8_simulated, Cond.selects RX8 yX8_simulated yX8_simulated, Cond.initialized RX8, Cond.code yX8_simulated cX8_simulated 7 (some .int)], w ∈ BIG from List.forall_mem_cons.mpr ⟨bk_1345, List.forall_mem_cons.mpr ⟨bk_60, List.forall_mem_cons.mpr ⟨bk_72, List.forall_mem_cons.mpr ⟨bk_1346, fun _ h => absurd h List.not_mem_nil⟩⟩⟩⟩, by decide +kernel, by decide +kernel, by decide +kernel⟩
theorem wok_X8_simulate : wok M_X8_simulate := ⟨show ∀ w ∈ [Cond.instanceMethod yX8_simulate, Cond.selects RX8 yX8_simulate yX8_simulate, Cond.initialized RX8, Cond.code yX8_simulate cX8_simulate 4 (some .int)], w ∈ BIG from List.forall_mem_cons.mpr ⟨bk_1340, List.forall_mem_cons.mpr ⟨bk_1341, List.forall_mem_cons.mpr ⟨bk_72, List.forall_mem_cons.mpr ⟨bk_1342, fun _ h => absurd h List.not_mem_nil⟩⟩⟩⟩, by decide +kernel, by decide +kernel, by decide +kernel⟩
theorem wok_X8_save : wok M_X8_save := ⟨show ∀ w ∈ [Cond.instanceMethod yX8_save, Cond.selects RX8 yX8_save yX8_save, Cond.initialized RX8, Cond.code yX8_save cX8_save 3 (some .int)], w ∈ BIG from List.forall_mem_cons.mpr ⟨bk_1354, List.forall_mem_cons.mpr ⟨bk_1355, List.forall_mem_cons.mpr ⟨bk_72, List.forall_mem_cons.mpr ⟨bk_1356, fun _ h => absurd h List.not_mem_nil⟩⟩⟩⟩, by decide +kernel, by decide +kernel, by decide +kernel⟩
theorem wok_X8_restore : wok M_X8_restore := ⟨show ∀ w ∈ [Cond.instanceMethod yX8_restore, Cond.selects RX8 yX8_restore yX8_restore, Cond.initialized RX8, Cond.code yX8_restore cX8_restore 3 (some .int)], w ∈ BIG from List.forall_mem_cons.mpr ⟨bk_1358, List.forall_mem_cons.mpr ⟨bk_1359, List.forall_mem_cons.mpr ⟨bk_72, List.forall_mem_cons.mpr ⟨bk_1360, fun _ h => absurd h List.not_mem_nil⟩⟩⟩⟩, by decide +kernel, by decide +kernel, by decide +kernel⟩
theorem wok_J13_bitCount_95d88 : wok M_J13_bitCount_95d88 := ⟨show ∀ w ∈ [Cond.static yJ13_bitCount_95d88, Cond.initialized RJ13, Cond.code yJ13_bitCount_95d88 cJ13_bitCount_95d88 2 (some .int)], w ∈ BIG from List.forall_mem_cons.mpr ⟨bk_766, List.forall_mem_cons.mpr ⟨bk_81, List.forall_mem_cons.mpr ⟨bk_767, fun _ h => absurd h List.not_mem_nil⟩⟩⟩, by decide +kernel, by decide +kernel, by decide +kernel⟩
theorem wok_J7_fill_53178 : wok M_J7_fill_53178 := ⟨show ∀ w ∈ [Cond.static yJ7_fill_53178, Cond.initialized RJ7, Cond.code yJ7_fill_53178 cJ7_fill_53178 4 none], w ∈ BIG from List.forall_mem_cons.mpr ⟨bk_682, List.forall_mem_cons.mpr ⟨bk_79, List.forall_mem_cons.mpr ⟨bk_683, fun _ h => absurd h List.not_mem_nil⟩⟩⟩, by decide +kernel, by decide +kernel, by decide +kernel⟩
theorem wokW_L_append : wokW M_L_append [(0, 9, 12, 13), (0, 9, 15, 15)] := ⟨show ∀ w ∈ [Cond.static yL_append, Cond.initialized RL, Cond.codeWith yL_append cL_append 4 (some .int) [(0, 9, 12, 13), (0, 9, 15, 15)]], w ∈ BIG from List.forall_mem_cons.mpr ⟨bk_471, List.forall_mem_cons.mpr ⟨bk_62, List.forall_mem_cons.mpr ⟨bk_472, fun _ h => absurd h List.not_mem_nil⟩⟩⟩, by decide +kernel, by decide +kernel, by decide +kernel⟩
theorem wokW_L_load : wokW M_L_load [(0, 8, 11, 15)] := ⟨show ∀ w ∈ [Cond.static yL_load, Cond.initialized RL, Cond.codeWith yL_load cL_load 3 (some .int) [(0, 8, 11, 15)]], w ∈ BIG from List.forall_mem_cons.mpr ⟨bk_572, List.forall_mem_cons.mpr ⟨bk_62, List.forall_mem_cons.mpr ⟨bk_573, fun _ h => absurd h List.not_mem_nil⟩⟩⟩, by decide +kernel, by decide +kernel, by decide +kernel⟩
theorem wokW_L_about : wokW M_L_about [(0, 9, 12, 13)] := ⟨show ∀ w ∈ [Cond.static yL_about, Cond.initialized RL, Cond.codeWith yL_about cL_about 4 (some .int) [(0, 9, 12, 13)]], w ∈ BIG from List.forall_mem_cons.mpr ⟨bk_654, List.forall_mem_cons.mpr ⟨bk_62, List.forall_mem_cons.mpr ⟨bk_655, fun _ h => absurd h List.not_mem_nil⟩⟩⟩, by decide +kernel, by decide +kernel, by decide +kernel⟩
theorem wokW_L_get : wokW M_L_get [(0, 10, 13, 28)] := ⟨show ∀ w ∈ [Cond.static yL_get, Cond.initialized RL, Cond.codeWith yL_get cL_get 5 (some .int) [(0, 10, 13, 28)]], w ∈ BIG from List.forall_mem_cons.mpr ⟨bk_704, List.forall_mem_cons.mpr ⟨bk_62, List.forall_mem_cons.mpr ⟨bk_705, fun _ h => absurd h List.not_mem_nil⟩⟩⟩, by decide +kernel, by decide +kernel, by decide +kernel⟩
theorem wokW_L_run : wokW M_L_run [(0, 10, 13, 28), (0, 10, 17, 13)] := ⟨show ∀ w ∈ [Cond.static yL_run, Cond.initialized RL, Cond.codeWith yL_run cL_run 5 (some .int) [(0, 10, 13, 28), (0, 10, 17, 13)]], w ∈ BIG from List.forall_mem_cons.mpr ⟨bk_739, List.forall_mem_cons.mpr ⟨bk_62, List.forall_mem_cons.mpr ⟨bk_740, fun _ h => absurd h List.not_mem_nil⟩⟩⟩, by decide +kernel, by decide +kernel, by decide +kernel⟩
theorem wokW_L_write : wokW M_L_write [(0, 12, 15, 28), (0, 12, 19, 13)] := ⟨show ∀ w ∈ [Cond.static yL_write, Cond.initialized RL, Cond.codeWith yL_write cL_write 6 (some .int) [(0, 12, 15, 28), (0, 12, 19, 13)]], w ∈ BIG from List.forall_mem_cons.mpr ⟨bk_773, List.forall_mem_cons.mpr ⟨bk_62, List.forall_mem_cons.mpr ⟨bk_774, fun _ h => absurd h List.not_mem_nil⟩⟩⟩, by decide +kernel, by decide +kernel, by decide +kernel⟩
theorem wokW_L_eye : wokW M_L_eye [(0, 9, 12, 28)] := ⟨show ∀ w ∈ [Cond.static yL_eye, Cond.initialized RL, Cond.codeWith yL_eye cL_eye 4 (some .int) [(0, 9, 12, 28)]], w ∈ BIG from List.forall_mem_cons.mpr ⟨bk_784, List.forall_mem_cons.mpr ⟨bk_62, List.forall_mem_cons.mpr ⟨bk_785, fun _ h => absurd h List.not_mem_nil⟩⟩⟩, by decide +kernel, by decide +kernel, by decide +kernel⟩
theorem wokW_L_put : wokW M_L_put [(0, 10, 13, 28), (0, 10, 17, 13), (0, 10, 21, 15)] := ⟨show ∀ w ∈ [Cond.static yL_put, Cond.initialized RL, Cond.codeWith yL_put cL_put 5 (some .int) [(0, 10, 13, 28), (0, 10, 17, 13), (0, 10, 21, 15)]], w ∈ BIG from List.forall_mem_cons.mpr ⟨bk_793, List.forall_mem_cons.mpr ⟨bk_62, List.forall_mem_cons.mpr ⟨bk_794, fun _ h => absurd h List.not_mem_nil⟩⟩⟩, by decide +kernel, by decide +kernel, by decide +kernel⟩
theorem wokW_L_bury : wokW M_L_bury [(0, 10, 13, 28), (0, 10, 17, 13), (0, 10, 21, 15)] := ⟨show ∀ w ∈ [Cond.static yL_bury, Cond.initialized RL, Cond.codeWith yL_bury cL_bury 5 (some .int) [(0, 10, 13, 28), (0, 10, 17, 13), (0, 10, 21, 15)]], w ∈ BIG from List.forall_mem_cons.mpr ⟨bk_811, List.forall_mem_cons.mpr ⟨bk_62, List.forall_mem_cons.mpr ⟨bk_812, fun _ h => absurd h List.not_mem_nil⟩⟩⟩, by decide +kernel, by decide +kernel, by decide +kernel⟩
theorem wokW_L_open : wokW M_L_open [(0, 8, 11, 15)] := ⟨show ∀ w ∈ [Cond.static yL_open, Cond.initialized RL, Cond.codeWith yL_open cL_open 3 (some .int) [(0, 8, 11, 15)]], w ∈ BIG from List.forall_mem_cons.mpr ⟨bk_819, List.forall_mem_cons.mpr ⟨bk_62, List.forall_mem_cons.mpr ⟨bk_820, fun _ h => absurd h List.not_mem_nil⟩⟩⟩, by decide +kernel, by decide +kernel, by decide +kernel⟩
theorem wokW_L_close : wokW M_L_close [(0, 9, 12, 28)] := ⟨show ∀ w ∈ [Cond.static yL_close, Cond.initialized RL, Cond.codeWith yL_close cL_close 4 (some .int) [(0, 9, 12, 28)]], w ∈ BIG from List.forall_mem_cons.mpr ⟨bk_829, List.forall_mem_cons.mpr ⟨bk_62, List.forall_mem_cons.mpr ⟨bk_830, fun _ h => absurd h List.not_mem_nil⟩⟩⟩, by decide +kernel, by decide +kernel, by decide +kernel⟩
theorem wokW_L_flush : wokW M_L_flush [(0, 8, 11, 15)] := ⟨show ∀ w ∈ [Cond.static yL_flush, Cond.initialized RL, Cond.codeWith yL_flush cL_flush 3 (some .int) [(0, 8, 11, 15)]], w ∈ BIG from List.forall_mem_cons.mpr ⟨bk_837, List.forall_mem_cons.mpr ⟨bk_62, List.forall_mem_cons.mpr ⟨bk_838, fun _ h => absurd h List.not_mem_nil⟩⟩⟩, by decide +kernel, by decide +kernel, by decide +kernel⟩
theorem wokW_L_merge : wokW M_L_merge [(0, 9, 12, 28), (0, 9, 15, 15)] := ⟨show ∀ w ∈ [Cond.static yL_merge, Cond.initialized RL, Cond.codeWith yL_merge cL_merge 4 (some .int) [(0, 9, 12, 28), (0, 9, 15, 15)]], w ∈ BIG from List.forall_mem_cons.mpr ⟨bk_846, List.forall_mem_cons.mpr ⟨bk_62, List.forall_mem_cons.mpr ⟨bk_847, fun _ h => absurd h List.not_mem_nil⟩⟩⟩, by decide +kernel, by decide +kernel, by decide +kernel⟩
theorem wokW_L_undo : wokW M_L_undo [(0, 8, 11, 15)] := ⟨show ∀ w ∈ [Cond.static yL_undo, Cond.initialized RL, Cond.codeWith yL_undo cL_undo 3 (some .int) [(0, 8, 11, 15)]], w ∈ BIG from List.forall_mem_cons.mpr ⟨bk_855, List.forall_mem_cons.mpr ⟨bk_62, List.forall_mem_cons.mpr ⟨bk_856, fun _ h => absurd h List.not_mem_nil⟩⟩⟩, by decide +kernel, by decide +kernel, by decide +kernel⟩
theorem wokW_L_looks : wokW M_L_looks [(0, 9, 12, 28)] := ⟨show ∀ w ∈ [Cond.static yL_looks, Cond.initialized RL, Cond.codeWith yL_looks cL_looks 4 (some .int) [(0, 9, 12, 28)]], w ∈ BIG from List.forall_mem_cons.mpr ⟨bk_871, List.forall_mem_cons.mpr ⟨bk_62, List.forall_mem_cons.mpr ⟨bk_872, fun _ h => absurd h List.not_mem_nil⟩⟩⟩, by decide +kernel, by decide +kernel, by decide +kernel⟩
theorem wokW_L_next : wokW M_L_next [(0, 10, 13, 28)] := ⟨show ∀ w ∈ [Cond.static yL_next, Cond.initialized RL, Cond.codeWith yL_next cL_next 5 (some .int) [(0, 10, 13, 28)]], w ∈ BIG from List.forall_mem_cons.mpr ⟨bk_879, List.forall_mem_cons.mpr ⟨bk_62, List.forall_mem_cons.mpr ⟨bk_880, fun _ h => absurd h List.not_mem_nil⟩⟩⟩, by decide +kernel, by decide +kernel, by decide +kernel⟩
theorem wokW_L_count : wokW M_L_count [(0, 12, 15, 28), (0, 12, 19, 13)] := ⟨show ∀ w ∈ [Cond.static yL_count, Cond.initialized RL, Cond.codeWith yL_count cL_count 6 (some .int) [(0, 12, 15, 28), (0, 12, 19, 13)]], w ∈ BIG from List.forall_mem_cons.mpr ⟨bk_890, List.forall_mem_cons.mpr ⟨bk_62, List.forall_mem_cons.mpr ⟨bk_891, fun _ h => absurd h List.not_mem_nil⟩⟩⟩, by decide +kernel, by decide +kernel, by decide +kernel⟩
theorem wokW_L_grave : wokW M_L_grave [(0, 9, 12, 28)] := ⟨show ∀ w ∈ [Cond.static yL_grave, Cond.initialized RL, Cond.codeWith yL_grave cL_grave 4 (some .int) [(0, 9, 12, 28)]], w ∈ BIG from List.forall_mem_cons.mpr ⟨bk_897, List.forall_mem_cons.mpr ⟨bk_62, List.forall_mem_cons.mpr ⟨bk_898, fun _ h => absurd h List.not_mem_nil⟩⟩⟩, by decide +kernel, by decide +kernel, by decide +kernel⟩
theorem wokW_L_saves : wokW M_L_saves [(0, 9, 12, 28), (0, 9, 15, 15)] := ⟨show ∀ w ∈ [Cond.static yL_saves, Cond.initialized RL, Cond.codeWith yL_saves cL_saves 4 (some .int) [(0, 9, 12, 28), (0, 9, 15, 15)]], w ∈ BIG from List.forall_mem_cons.mpr ⟨bk_905, List.forall_mem_cons.mpr ⟨bk_62, List.forall_mem_cons.mpr ⟨bk_906, fun _ h => absurd h List.not_mem_nil⟩⟩⟩, by decide +kernel, by decide +kernel, by decide +kernel⟩
theorem wokW_L_runScript : wokW M_L_runScript [(0, 11, 14, 13)] := ⟨show ∀ w ∈ [Cond.static yL_runScript, Cond.initialized RL, Cond.codeWith yL_runScript cL_runScript 6 (some .int) [(0, 11, 14, 13)]], w ∈ BIG from List.forall_mem_cons.mpr ⟨bk_912, List.forall_mem_cons.mpr ⟨bk_62, List.forall_mem_cons.mpr ⟨bk_913, fun _ h => absurd h List.not_mem_nil⟩⟩⟩, by decide +kernel, by decide +kernel, by decide +kernel⟩
theorem wokW_L_simulate : wokW M_L_simulate [(0, 11, 14, 13)] := ⟨show ∀ w ∈ [Cond.static yL_simulate, Cond.initialized RL, Cond.codeWith yL_simulate cL_simulate 6 (some .int) [(0, 11, 14, 13)]], w ∈ BIG from List.forall_mem_cons.mpr ⟨bk_929, List.forall_mem_cons.mpr ⟨bk_62, List.forall_mem_cons.mpr ⟨bk_930, fun _ h => absurd h List.not_mem_nil⟩⟩⟩, by decide +kernel, by decide +kernel, by decide +kernel⟩
theorem wokW_L_save : wokW M_L_save [(0, 9, 12, 28)] := ⟨show ∀ w ∈ [Cond.static yL_save, Cond.initialized RL, Cond.codeWith yL_save cL_save 4 (some .int) [(0, 9, 12, 28)]], w ∈ BIG from List.forall_mem_cons.mpr ⟨bk_944, List.forall_mem_cons.mpr ⟨bk_62, List.forall_mem_cons.mpr ⟨bk_945, fun _ h => absurd h List.not_mem_nil⟩⟩⟩, by decide +kernel, by decide +kernel, by decide +kernel⟩
theorem wokW_L_restore : wokW M_L_restore [(0, 9, 12, 28), (0, 9, 15, 15)] := ⟨show ∀ w ∈ [Cond.static yL_restore, Cond.initialized RL, Cond.codeWith yL_restore cL_restore 4 (some .int) [(0, 9, 12, 28), (0, 9, 15, 15)]], w ∈ BIG from List.forall_mem_cons.mpr ⟨bk_952, List.forall_mem_cons.mpr ⟨bk_62, List.forall_mem_cons.mpr ⟨bk_953, fun _ h => absurd h List.not_mem_nil⟩⟩⟩, by decide +kernel, by decide +kernel, by decide +kernel⟩
theorem fl_RX0_14 : FLD 0 RX0 14 0 := ⟨RX0, TX0, 5, rfl, by decide, layX0, rfl, Or.inl bk_136⟩
theorem fl_RX0_22 : FLD 0 RX0 22 1 := ⟨RX0, TX0, 5, rfl, by decide, layX0, rfl, Or.inl bk_138⟩
theorem fl_RX0_27 : FLD 0 RX0 27 2 := ⟨RX0, TX0, 5, rfl, by decide, layX0, rfl, Or.inl bk_139⟩
theorem fl_RX0_31 : FLD 0 RX0 31 3 := ⟨RX0, TX0, 5, rfl, by decide, layX0, rfl, Or.inl bk_140⟩
theorem fl_RX0_34 : FLD 0 RX0 34 4 := ⟨RX0, TX0, 5, rfl, by decide, layX0, rfl, Or.inl bk_141⟩
theorem fl_RX0_57 : FLD 3 RX0 57 1 := ⟨RX3, TX3, 8, rfl, by decide, layX3, rfl, Or.inr ⟨_, tk_177⟩⟩
theorem fl_RX1_11 : FLD 1 RX1 11 0 := ⟨RX1, TX1, 3, rfl, by decide, layX1, rfl, Or.inl bk_211⟩
theorem fl_RX1_20 : FLD 1 RX1 20 2 := ⟨RX1, TX1, 3, rfl, by decide, layX1, rfl, Or.inl bk_213⟩
theorem fl_RX1_24 : FLD 1 RX1 24 1 := ⟨RX1, TX1, 3, rfl, by decide, layX1, rfl, Or.inl bk_212⟩
theorem fl_RX2_15 : FLD 2 RX2 15 1 := ⟨RX2, TX2, 2, rfl, by decide, layX2, rfl, Or.inl bk_130⟩
theorem fl_RX2_9 : FLD 2 RX2 9 0 := ⟨RX2, TX2, 2, rfl, by decide, layX2, rfl, Or.inl bk_129⟩
theorem fl_RX3_122 : FLD 0 RX3 122 0 := ⟨RX0, TX0, 5, rfl, by decide, layX0, rfl, Or.inr ⟨_, tk_137⟩⟩
theorem fl_RX3_15 : FLD 3 RX3 15 3 := ⟨RX3, TX3, 8, rfl, by decide, layX3, rfl, Or.inl bk_180⟩
theorem fl_RX3_18 : FLD 3 RX3 18 0 := ⟨RX3, TX3, 8, rfl, by decide, layX3, rfl, Or.inl bk_174⟩
theorem fl_RX3_27 : FLD 3 RX3 27 1 := ⟨RX3, TX3, 8, rfl, by decide, layX3, rfl, Or.inl bk_175⟩
theorem fl_RX3_34 : FLD 3 RX3 34 4 := ⟨RX3, TX3, 8, rfl, by decide, layX3, rfl, Or.inl bk_181⟩
theorem fl_RX3_38 : FLD 3 RX3 38 5 := ⟨RX3, TX3, 8, rfl, by decide, layX3, rfl, Or.inl bk_182⟩
theorem fl_RX3_41 : FLD 3 RX3 41 6 := ⟨RX3, TX3, 8, rfl, by decide, layX3, rfl, Or.inl bk_183⟩
theorem fl_RX3_44 : FLD 3 RX3 44 7 := ⟨RX3, TX3, 8, rfl, by decide, layX3, rfl, Or.inl bk_184⟩
theorem fl_RX3_9 : FLD 3 RX3 9 2 := ⟨RX3, TX3, 8, rfl, by decide, layX3, rfl, Or.inl bk_179⟩
theorem fl_RX4_15 : FLD 4 RX4 15 1 := ⟨RX4, TX4, 2, rfl, by decide, layX4, rfl, Or.inl bk_160⟩
theorem fl_RX4_9 : FLD 4 RX4 9 0 := ⟨RX4, TX4, 2, rfl, by decide, layX4, rfl, Or.inl bk_159⟩
theorem fl_RX5_21 : FLD 3 RX5 21 1 := ⟨RX3, TX3, 8, rfl, by decide, layX3, rfl, Or.inr ⟨_, tk_176⟩⟩
theorem fl_RX5_9 : FLD 5 RX5 9 0 := ⟨RX5, TX5, 1, rfl, by decide, layX5, rfl, Or.inl bk_227⟩
theorem fl_RX6_15 : FLD 6 RX6 15 0 := ⟨RX6, TX6, 5, rfl, by decide, layX6, rfl, Or.inl bk_105⟩
theorem fl_RX6_21 : FLD 6 RX6 21 1 := ⟨RX6, TX6, 5, rfl, by decide, layX6, rfl, Or.inl bk_106⟩
theorem fl_RX6_24 : FLD 6 RX6 24 2 := ⟨RX6, TX6, 5, rfl, by decide, layX6, rfl, Or.inl bk_107⟩
theorem fl_RX6_27 : FLD 6 RX6 27 3 := ⟨RX6, TX6, 5, rfl, by decide, layX6, rfl, Or.inl bk_108⟩
theorem fl_RX6_30 : FLD 6 RX6 30 4 := ⟨RX6, TX6, 5, rfl, by decide, layX6, rfl, Or.inl bk_109⟩
theorem fl_RX7_15 : FLD 7 RX7 15 0 := ⟨RX7, TX7, 7, rfl, by decide, layX7, rfl, Or.inl bk_232⟩
theorem fl_RX7_162 : FLD 3 RX7 162 1 := ⟨RX3, TX3, 8, rfl, by decide, layX3, rfl, Or.inr ⟨_, tk_178⟩⟩
theorem fl_RX7_24 : FLD 7 RX7 24 1 := ⟨RX7, TX7, 7, rfl, by decide, layX7, rfl, Or.inl bk_233⟩
theorem fl_RX7_28 : FLD 7 RX7 28 2 := ⟨RX7, TX7, 7, rfl, by decide, layX7, rfl, Or.inl bk_234⟩
theorem fl_RX7_36 : FLD 7 RX7 36 3 := ⟨RX7, TX7, 7, rfl, by decide, layX7, rfl, Or.inl bk_235⟩
theorem fl_RX7_40 : FLD 7 RX7 40 4 := ⟨RX7, TX7, 7, rfl, by decide, layX7, rfl, Or.inl bk_236⟩
theorem fl_RX7_44 : FLD 7 RX7 44 5 := ⟨RX7, TX7, 7, rfl, by decide, layX7, rfl, Or.inl bk_237⟩
theorem fl_RX7_51 : FLD 7 RX7 51 6 := ⟨RX7, TX7, 7, rfl, by decide, layX7, rfl, Or.inl bk_238⟩
theorem fl_RX8_121 : FLD 8 RX8 121 8 := ⟨RX8, TX8, 17, rfl, by decide, layX8, rfl, Or.inl bk_973⟩
theorem fl_RX8_127 : FLD 8 RX8 127 12 := ⟨RX8, TX8, 17, rfl, by decide, layX8, rfl, Or.inl bk_977⟩
theorem fl_RX8_13 : FLD 8 RX8 13 2 := ⟨RX8, TX8, 17, rfl, by decide, layX8, rfl, Or.inl bk_967⟩
theorem fl_RX8_130 : FLD 8 RX8 130 13 := ⟨RX8, TX8, 17, rfl, by decide, layX8, rfl, Or.inl bk_978⟩
theorem fl_RX8_137 : FLD 8 RX8 137 14 := ⟨RX8, TX8, 17, rfl, by decide, layX8, rfl, Or.inl bk_979⟩
theorem fl_RX8_143 : FLD 8 RX8 143 15 := ⟨RX8, TX8, 17, rfl, by decide, layX8, rfl, Or.inl bk_980⟩
theorem fl_RX8_146 : FLD 8 RX8 146 16 := ⟨RX8, TX8, 17, rfl, by decide, layX8, rfl, Or.inl bk_981⟩
theorem fl_RX8_16 : FLD 8 RX8 16 3 := ⟨RX8, TX8, 17, rfl, by decide, layX8, rfl, Or.inl bk_968⟩
theorem fl_RX8_19 : FLD 8 RX8 19 5 := ⟨RX8, TX8, 17, rfl, by decide, layX8, rfl, Or.inl bk_970⟩
theorem fl_RX8_22 : FLD 8 RX8 22 6 := ⟨RX8, TX8, 17, rfl, by decide, layX8, rfl, Or.inl bk_971⟩
theorem fl_RX8_26 : FLD 8 RX8 26 7 := ⟨RX8, TX8, 17, rfl, by decide, layX8, rfl, Or.inl bk_972⟩
theorem fl_RX8_29 : FLD 8 RX8 29 9 := ⟨RX8, TX8, 17, rfl, by decide, layX8, rfl, Or.inl bk_974⟩
theorem fl_RX8_32 : FLD 8 RX8 32 11 := ⟨RX8, TX8, 17, rfl, by decide, layX8, rfl, Or.inl bk_976⟩
theorem fl_RX8_35 : FLD 8 RX8 35 0 := ⟨RX8, TX8, 17, rfl, by decide, layX8, rfl, Or.inl bk_965⟩
theorem fl_RX8_43 : FLD 8 RX8 43 4 := ⟨RX8, TX8, 17, rfl, by decide, layX8, rfl, Or.inl bk_969⟩
theorem fl_RX8_7 : FLD 8 RX8 7 1 := ⟨RX8, TX8, 17, rfl, by decide, layX8, rfl, Or.inl bk_966⟩
theorem fl_RX8_78 : FLD 8 RX8 78 10 := ⟨RX8, TX8, 17, rfl, by decide, layX8, rfl, Or.inl bk_975⟩
theorem pf_RX0_14 : PFL 0 RX0 14 0 (.object "RangeGraves$Writes") true := ⟨RX0, TX0, 5, tyX0, rfl, by decide, layX0, rfl, bk_136, tyX0_ok, nmX0, rfl, rfl, fun _ => rfl⟩
theorem pf_RX0_22 : PFL 0 RX0 22 1 (.array (.object "RangeGraves$Keys")) true := ⟨RX0, TX0, 5, tyX0, rfl, by decide, layX0, rfl, bk_138, tyX0_ok, nmX0, rfl, rfl, fun _ => rfl⟩
theorem pf_RX0_27 : PFL 0 RX0 27 2 (.object "RangeGraves$Keys") true := ⟨RX0, TX0, 5, tyX0, rfl, by decide, layX0, rfl, bk_139, tyX0_ok, nmX0, rfl, rfl, fun _ => rfl⟩
theorem pf_RX0_31 : PFL 0 RX0 31 3 (.object "RangeGraves$Keys") true := ⟨RX0, TX0, 5, tyX0, rfl, by decide, layX0, rfl, bk_140, tyX0_ok, nmX0, rfl, rfl, fun _ => rfl⟩
theorem pf_RX0_34 : PFL 0 RX0 34 4 (.object "RangeGraves$Keys") true := ⟨RX0, TX0, 5, tyX0, rfl, by decide, layX0, rfl, bk_141, tyX0_ok, nmX0, rfl, rfl, fun _ => rfl⟩
theorem pf_RX1_11 : PFL 1 RX1 11 0 (.array (.object "RangeGraves$Store")) true := ⟨RX1, TX1, 3, tyX1, rfl, by decide, layX1, rfl, bk_211, tyX1_ok, nmX1, rfl, rfl, fun _ => rfl⟩
theorem pf_RX1_20 : PFL 1 RX1 20 2 .int false := ⟨RX1, TX1, 3, tyX1, rfl, by decide, layX1, rfl, bk_213, tyX1_ok, nmX1, rfl, rfl, fun h => by cases h⟩
theorem pf_RX1_24 : PFL 1 RX1 24 1 .int false := ⟨RX1, TX1, 3, tyX1, rfl, by decide, layX1, rfl, bk_212, tyX1_ok, nmX1, rfl, rfl, fun h => by cases h⟩
theorem pf_RX2_15 : PFL 2 RX2 15 1 .long false := ⟨RX2, TX2, 2, tyX2, rfl, by decide, layX2, rfl, bk_130, tyX2_ok, nmX2, rfl, rfl, fun h => by cases h⟩
theorem pf_RX2_9 : PFL 2 RX2 9 0 .long false := ⟨RX2, TX2, 2, tyX2, rfl, by decide, layX2, rfl, bk_129, tyX2_ok, nmX2, rfl, rfl, fun h => by cases h⟩
theorem pf_RX3_15 : PFL 3 RX3 15 3 (.array .int) true := ⟨RX3, TX3, 8, tyX3, rfl, by decide, layX3, rfl, bk_180, tyX3_ok, nmX3, rfl, rfl, fun _ => rfl⟩
theorem pf_RX3_18 : PFL 3 RX3 18 0 (.object "RangeGraves$Cleaner") true := ⟨RX3, TX3, 8, tyX3, rfl, by decide, layX3, rfl, bk_174, tyX3_ok, nmX3, rfl, rfl, fun _ => rfl⟩
theorem pf_RX3_27 : PFL 3 RX3 27 1 (.object "RangeGraves$Writes") true := ⟨RX3, TX3, 8, tyX3, rfl, by decide, layX3, rfl, bk_175, tyX3_ok, nmX3, rfl, rfl, fun _ => rfl⟩
theorem pf_RX3_34 : PFL 3 RX3 34 4 .int false := ⟨RX3, TX3, 8, tyX3, rfl, by decide, layX3, rfl, bk_181, tyX3_ok, nmX3, rfl, rfl, fun h => by cases h⟩
theorem pf_RX3_38 : PFL 3 RX3 38 5 .int false := ⟨RX3, TX3, 8, tyX3, rfl, by decide, layX3, rfl, bk_182, tyX3_ok, nmX3, rfl, rfl, fun h => by cases h⟩
theorem pf_RX3_41 : PFL 3 RX3 41 6 .int false := ⟨RX3, TX3, 8, tyX3, rfl, by decide, layX3, rfl, bk_183, tyX3_ok, nmX3, rfl, rfl, fun h => by cases h⟩
theorem pf_RX3_44 : PFL 3 RX3 44 7 .int false := ⟨RX3, TX3, 8, tyX3, rfl, by decide, layX3, rfl, bk_184, tyX3_ok, nmX3, rfl, rfl, fun h => by cases h⟩
theorem pf_RX3_9 : PFL 3 RX3 9 2 (.array .int) true := ⟨RX3, TX3, 8, tyX3, rfl, by decide, layX3, rfl, bk_179, tyX3_ok, nmX3, rfl, rfl, fun _ => rfl⟩
theorem pf_RX4_15 : PFL 4 RX4 15 1 .int false := ⟨RX4, TX4, 2, tyX4, rfl, by decide, layX4, rfl, bk_160, tyX4_ok, nmX4, rfl, rfl, fun h => by cases h⟩
theorem pf_RX4_9 : PFL 4 RX4 9 0 (.array .int) true := ⟨RX4, TX4, 2, tyX4, rfl, by decide, layX4, rfl, bk_159, tyX4_ok, nmX4, rfl, rfl, fun _ => rfl⟩
theorem pf_RX5_9 : PFL 5 RX5 9 0 (.array .int) true := ⟨RX5, TX5, 1, tyX5, rfl, by decide, layX5, rfl, bk_227, tyX5_ok, nmX5, rfl, rfl, fun _ => rfl⟩
theorem pf_RX6_15 : PFL 6 RX6 15 0 (.array .int) true := ⟨RX6, TX6, 5, tyX6, rfl, by decide, layX6, rfl, bk_105, tyX6_ok, nmX6, rfl, rfl, fun _ => rfl⟩
theorem pf_RX6_21 : PFL 6 RX6 21 1 (.array .int) true := ⟨RX6, TX6, 5, tyX6, rfl, by decide, layX6, rfl, bk_106, tyX6_ok, nmX6, rfl, rfl, fun _ => rfl⟩
theorem pf_RX6_24 : PFL 6 RX6 24 2 (.array .int) true := ⟨RX6, TX6, 5, tyX6, rfl, by decide, layX6, rfl, bk_107, tyX6_ok, nmX6, rfl, rfl, fun _ => rfl⟩
theorem pf_RX6_27 : PFL 6 RX6 27 3 (.array .int) true := ⟨RX6, TX6, 5, tyX6, rfl, by decide, layX6, rfl, bk_108, tyX6_ok, nmX6, rfl, rfl, fun _ => rfl⟩
theorem pf_RX6_30 : PFL 6 RX6 30 4 .int false := ⟨RX6, TX6, 5, tyX6, rfl, by decide, layX6, rfl, bk_109, tyX6_ok, nmX6, rfl, rfl, fun h => by cases h⟩
theorem pf_RX7_15 : PFL 7 RX7 15 0 (.object "RangeGraves$Text") true := ⟨RX7, TX7, 7, tyX7, rfl, by decide, layX7, rfl, bk_232, tyX7_ok, nmX7, rfl, rfl, fun _ => rfl⟩
theorem pf_RX7_24 : PFL 7 RX7 24 1 (.object "RangeGraves$Store") true := ⟨RX7, TX7, 7, tyX7, rfl, by decide, layX7, rfl, bk_233, tyX7_ok, nmX7, rfl, rfl, fun _ => rfl⟩
theorem pf_RX7_28 : PFL 7 RX7 28 2 (.object "RangeGraves$Store") true := ⟨RX7, TX7, 7, tyX7, rfl, by decide, layX7, rfl, bk_234, tyX7_ok, nmX7, rfl, rfl, fun _ => rfl⟩
theorem pf_RX7_36 : PFL 7 RX7 36 3 (.object "RangeGraves$History") true := ⟨RX7, TX7, 7, tyX7, rfl, by decide, layX7, rfl, bk_235, tyX7_ok, nmX7, rfl, rfl, fun _ => rfl⟩
theorem pf_RX7_40 : PFL 7 RX7 40 4 (.array (.object "RangeGraves$Store")) true := ⟨RX7, TX7, 7, tyX7, rfl, by decide, layX7, rfl, bk_236, tyX7_ok, nmX7, rfl, rfl, fun _ => rfl⟩
theorem pf_RX7_44 : PFL 7 RX7 44 5 (.array .boolean) true := ⟨RX7, TX7, 7, tyX7, rfl, by decide, layX7, rfl, bk_237, tyX7_ok, nmX7, rfl, rfl, fun _ => rfl⟩
theorem pf_RX7_51 : PFL 7 RX7 51 6 (.object "RangeGraves$View") true := ⟨RX7, TX7, 7, tyX7, rfl, by decide, layX7, rfl, bk_238, tyX7_ok, nmX7, rfl, rfl, fun _ => rfl⟩
theorem pf_RX8_121 : PFL 8 RX8 121 8 .int false := ⟨RX8, TX8, 17, tyX8, rfl, by decide, layX8, rfl, bk_973, tyX8_ok, nmX8, rfl, rfl, fun h => by cases h⟩
theorem pf_RX8_127 : PFL 8 RX8 127 12 .int false := ⟨RX8, TX8, 17, tyX8, rfl, by decide, layX8, rfl, bk_977, tyX8_ok, nmX8, rfl, rfl, fun h => by cases h⟩
theorem pf_RX8_13 : PFL 8 RX8 13 2 (.array .int) true := ⟨RX8, TX8, 17, tyX8, rfl, by decide, layX8, rfl, bk_967, tyX8_ok, nmX8, rfl, rfl, fun _ => rfl⟩
theorem pf_RX8_130 : PFL 8 RX8 130 13 .boolean false := ⟨RX8, TX8, 17, tyX8, rfl, by decide, layX8, rfl, bk_978, tyX8_ok, nmX8, rfl, rfl, fun h => by cases h⟩
theorem pf_RX8_137 : PFL 8 RX8 137 14 .int false := ⟨RX8, TX8, 17, tyX8, rfl, by decide, layX8, rfl, bk_979, tyX8_ok, nmX8, rfl, rfl, fun h => by cases h⟩
theorem pf_RX8_143 : PFL 8 RX8 143 15 .int false := ⟨RX8, TX8, 17, tyX8, rfl, by decide, layX8, rfl, bk_980, tyX8_ok, nmX8, rfl, rfl, fun h => by cases h⟩
theorem pf_RX8_146 : PFL 8 RX8 146 16 .int false := ⟨RX8, TX8, 17, tyX8, rfl, by decide, layX8, rfl, bk_981, tyX8_ok, nmX8, rfl, rfl, fun h => by cases h⟩
theorem pf_RX8_16 : PFL 8 RX8 16 3 (.array .int) true := ⟨RX8, TX8, 17, tyX8, rfl, by decide, layX8, rfl, bk_968, tyX8_ok, nmX8, rfl, rfl, fun _ => rfl⟩
theorem pf_RX8_19 : PFL 8 RX8 19 5 (.array .int) true := ⟨RX8, TX8, 17, tyX8, rfl, by decide, layX8, rfl, bk_970, tyX8_ok, nmX8, rfl, rfl, fun _ => rfl⟩
theorem pf_RX8_22 : PFL 8 RX8 22 6 (.array .boolean) true := ⟨RX8, TX8, 17, tyX8, rfl, by decide, layX8, rfl, bk_971, tyX8_ok, nmX8, rfl, rfl, fun _ => rfl⟩
theorem pf_RX8_26 : PFL 8 RX8 26 7 (.array .int) true := ⟨RX8, TX8, 17, tyX8, rfl, by decide, layX8, rfl, bk_972, tyX8_ok, nmX8, rfl, rfl, fun _ => rfl⟩
theorem pf_RX8_29 : PFL 8 RX8 29 9 (.array .int) true := ⟨RX8, TX8, 17, tyX8, rfl, by decide, layX8, rfl, bk_974, tyX8_ok, nmX8, rfl, rfl, fun _ => rfl⟩
theorem pf_RX8_32 : PFL 8 RX8 32 11 (.array .boolean) true := ⟨RX8, TX8, 17, tyX8, rfl, by decide, layX8, rfl, bk_976, tyX8_ok, nmX8, rfl, rfl, fun _ => rfl⟩
theorem pf_RX8_35 : PFL 8 RX8 35 0 .int false := ⟨RX8, TX8, 17, tyX8, rfl, by decide, layX8, rfl, bk_965, tyX8_ok, nmX8, rfl, rfl, fun h => by cases h⟩
theorem pf_RX8_43 : PFL 8 RX8 43 4 .int false := ⟨RX8, TX8, 17, tyX8, rfl, by decide, layX8, rfl, bk_969, tyX8_ok, nmX8, rfl, rfl, fun h => by cases h⟩
theorem pf_RX8_7 : PFL 8 RX8 7 1 (.array .int) true := ⟨RX8, TX8, 17, tyX8, rfl, by decide, layX8, rfl, bk_966, tyX8_ok, nmX8, rfl, rfl, fun _ => rfl⟩
theorem pf_RX8_78 : PFL 8 RX8 78 10 .int false := ⟨RX8, TX8, 17, tyX8, rfl, by decide, layX8, rfl, bk_975, tyX8_ok, nmX8, rfl, rfl, fun h => by cases h⟩
theorem nw_RL_8 : NEWC 7 RL 8 7 [.null, .null, .null, .null, .null, .null, .null] := ⟨RX7, TX7, tyX7, rfl, layX7, tyX7_ok, bk_82, bk_83, bk_63, by decide +kernel⟩
theorem nw_RL_91 : NEWC 8 RL 91 17 [.int 0, .null, .null, .null, .int 0, .null, .null, .null, .int 0, .null, .int 0, .null, .int 0, .int 0, .int 0, .int 0, .int 0] := ⟨RX8, TX8, tyX8, rfl, layX8, tyX8_ok, bk_959, bk_960, bk_72, by decide +kernel⟩
theorem nw_RX0_20 : NEWC 2 RX0 20 2 [.long 0, .long 0] := ⟨RX2, TX2, tyX2, rfl, layX2, tyX2_ok, bk_122, bk_124, bk_67, by decide +kernel⟩
theorem nw_RX0_9 : NEWC 6 RX0 9 5 [.null, .null, .null, .null, .int 0] := ⟨RX6, TX6, tyX6, rfl, layX6, tyX6_ok, bk_96, bk_97, bk_65, by decide +kernel⟩
theorem nw_RX1_9 : NEWC 3 RX1 9 8 [.null, .null, .null, .null, .int 0, .int 0, .int 0, .int 0] := ⟨RX3, TX3, tyX3, rfl, layX3, tyX3_ok, bk_208, bk_167, bk_69, by decide +kernel⟩
theorem nw_RX3_22 : NEWC 6 RX3 22 5 [.null, .null, .null, .null, .int 0] := ⟨RX6, TX6, tyX6, rfl, layX6, tyX6_ok, bk_172, bk_97, bk_65, by decide +kernel⟩
theorem nw_RX3_75 : NEWC 2 RX3 75 2 [.long 0, .long 0] := ⟨RX2, TX2, tyX2, rfl, layX2, tyX2_ok, bk_757, bk_124, bk_67, by decide +kernel⟩
theorem nw_RX7_12 : NEWC 4 RX7 12 2 [.null, .int 0] := ⟨RX4, TX4, tyX4, rfl, layX4, tyX4_ok, bk_153, bk_154, bk_68, by decide +kernel⟩
theorem nw_RX7_19 : NEWC 3 RX7 19 8 [.null, .null, .null, .null, .int 0, .int 0, .int 0, .int 0] := ⟨RX3, TX3, tyX3, rfl, layX3, tyX3_ok, bk_166, bk_167, bk_69, by decide +kernel⟩
theorem nw_RX7_31 : NEWC 1 RX7 31 3 [.null, .int 0, .int 0] := ⟨RX1, TX1, tyX1, rfl, layX1, tyX1_ok, bk_202, bk_203, bk_70, by decide +kernel⟩
theorem nw_RX7_48 : NEWC 5 RX7 48 1 [.null] := ⟨RX5, TX5, tyX5, rfl, layX5, tyX5_ok, bk_221, bk_222, bk_71, by decide +kernel⟩
theorem nw_RX7_9 : NEWC 0 RX7 9 5 [.null, .null, .null, .null, .null] := ⟨RX0, TX0, tyX0, rfl, layX0, tyX0_ok, bk_90, bk_91, bk_64, by decide +kernel⟩
theorem ck_L_about_21 : CK M_L_about M_X7_about 21 := ⟨Or.inl bk_656, by decide, by decide⟩
theorem ck_L_append_7 : CK M_L_append M_X7_append 7 := ⟨Or.inl bk_475, by decide, by decide⟩
theorem ck_L_bury_43 : CK M_L_bury M_X7_bury 43 := ⟨Or.inl bk_813, by decide, by decide⟩
theorem ck_L_close_49 : CK M_L_close M_X7_close 49 := ⟨Or.inl bk_831, by decide, by decide⟩
theorem ck_L_count_67 : CK M_L_count M_X7_count 67 := ⟨Or.inl bk_892, by decide, by decide⟩
theorem ck_L_eye_37 : CK M_L_eye M_X7_eye 37 := ⟨Or.inl bk_786, by decide, by decide⟩
theorem ck_L_flush_52 : CK M_L_flush M_X7_flush 52 := ⟨Or.inl bk_839, by decide, by decide⟩
theorem ck_L_get_24 : CK M_L_get M_X7_get 24 := ⟨Or.inl bk_707, by decide, by decide⟩
theorem ck_L_grave_70 : CK M_L_grave M_X7_grave 70 := ⟨Or.inl bk_899, by decide, by decide⟩
theorem ck_L_law_100 : CK M_L_law M_X8_thrown 100 := ⟨Or.inl bk_1017, by decide, by decide⟩
theorem ck_L_law_103 : CK M_L_law M_X7_clearText 103 := ⟨Or.inl bk_254, by decide, by decide⟩
theorem ck_L_law_106 : CK M_L_law M_X8_clearText 106 := ⟨Or.inl bk_1032, by decide, by decide⟩
theorem ck_L_law_107 : CK M_L_law M_X7_errorPosition 107 := ⟨Or.inl bk_266, by decide, by decide⟩
theorem ck_L_law_110 : CK M_L_law M_X8_errorPosition 110 := ⟨Or.inl bk_1036, by decide, by decide⟩
theorem ck_L_law_111 : CK M_L_law M_L_load 111 := ⟨Or.inl bk_571, by decide, by decide⟩
theorem ck_L_law_114 : CK M_L_law M_X8_load 114 := ⟨Or.inl bk_1178, by decide, by decide⟩
theorem ck_L_law_115 : CK M_L_law M_L_about 115 := ⟨Or.inl bk_653, by decide, by decide⟩
theorem ck_L_law_117 : CK M_L_law M_X8_about 117 := ⟨Or.inl bk_1182, by decide, by decide⟩
theorem ck_L_law_118 : CK M_L_law M_L_get 118 := ⟨Or.inl bk_703, by decide, by decide⟩
theorem ck_L_law_121 : CK M_L_law M_X8_get 121 := ⟨Or.inl bk_1198, by decide, by decide⟩
theorem ck_L_law_122 : CK M_L_law M_L_run 122 := ⟨Or.inl bk_738, by decide, by decide⟩
theorem ck_L_law_124 : CK M_L_law M_X8_run 124 := ⟨Or.inl bk_1206, by decide, by decide⟩
theorem ck_L_law_125 : CK M_L_law M_L_write 125 := ⟨Or.inl bk_772, by decide, by decide⟩
theorem ck_L_law_128 : CK M_L_law M_X8_write 128 := ⟨Or.inl bk_1222, by decide, by decide⟩
theorem ck_L_law_129 : CK M_L_law M_L_eye 129 := ⟨Or.inl bk_783, by decide, by decide⟩
theorem ck_L_law_131 : CK M_L_law M_X8_eye 131 := ⟨Or.inl bk_1226, by decide, by decide⟩
theorem ck_L_law_132 : CK M_L_law M_L_put 132 := ⟨Or.inl bk_792, by decide, by decide⟩
theorem ck_L_law_134 : CK M_L_law M_X8_put 134 := ⟨Or.inl bk_1230, by decide, by decide⟩
theorem ck_L_law_135 : CK M_L_law M_L_bury 135 := ⟨Or.inl bk_810, by decide, by decide⟩
theorem ck_L_law_137 : CK M_L_law M_X8_bury 137 := ⟨Or.inl bk_1238, by decide, by decide⟩
theorem ck_L_law_138 : CK M_L_law M_L_open 138 := ⟨Or.inl bk_818, by decide, by decide⟩
theorem ck_L_law_140 : CK M_L_law M_X8_open 140 := ⟨Or.inl bk_1242, by decide, by decide⟩
theorem ck_L_law_141 : CK M_L_law M_L_close 141 := ⟨Or.inl bk_828, by decide, by decide⟩
theorem ck_L_law_143 : CK M_L_law M_X8_close 143 := ⟨Or.inl bk_1246, by decide, by decide⟩
theorem ck_L_law_144 : CK M_L_law M_L_flush 144 := ⟨Or.inl bk_836, by decide, by decide⟩
theorem ck_L_law_146 : CK M_L_law M_X8_flush 146 := ⟨Or.inl bk_1250, by decide, by decide⟩
theorem ck_L_law_147 : CK M_L_law M_L_merge 147 := ⟨Or.inl bk_845, by decide, by decide⟩
theorem ck_L_law_149 : CK M_L_law M_X8_merge 149 := ⟨Or.inl bk_1254, by decide, by decide⟩
theorem ck_L_law_150 : CK M_L_law M_L_undo 150 := ⟨Or.inl bk_854, by decide, by decide⟩
theorem ck_L_law_152 : CK M_L_law M_X8_undo 152 := ⟨Or.inl bk_1258, by decide, by decide⟩
theorem ck_L_law_153 : CK M_L_law M_L_looks 153 := ⟨Or.inl bk_870, by decide, by decide⟩
theorem ck_L_law_155 : CK M_L_law M_X8_looks 155 := ⟨Or.inl bk_1262, by decide, by decide⟩
theorem ck_L_law_156 : CK M_L_law M_L_next 156 := ⟨Or.inl bk_878, by decide, by decide⟩
theorem ck_L_law_158 : CK M_L_law M_X8_next 158 := ⟨Or.inl bk_1274, by decide, by decide⟩
theorem ck_L_law_159 : CK M_L_law M_L_count 159 := ⟨Or.inl bk_889, by decide, by decide⟩
theorem ck_L_law_161 : CK M_L_law M_X8_count 161 := ⟨Or.inl bk_1282, by decide, by decide⟩
theorem ck_L_law_162 : CK M_L_law M_X7_hidden 162 := ⟨Or.inl bk_293, by decide, by decide⟩
theorem ck_L_law_165 : CK M_L_law M_X8_hidden 165 := ⟨Or.inl bk_1286, by decide, by decide⟩
theorem ck_L_law_166 : CK M_L_law M_L_grave 166 := ⟨Or.inl bk_896, by decide, by decide⟩
theorem ck_L_law_168 : CK M_L_law M_X8_grave 168 := ⟨Or.inl bk_1290, by decide, by decide⟩
theorem ck_L_law_169 : CK M_L_law M_L_saves 169 := ⟨Or.inl bk_904, by decide, by decide⟩
theorem ck_L_law_171 : CK M_L_law M_X8_saves 171 := ⟨Or.inl bk_1298, by decide, by decide⟩
theorem ck_L_law_172 : CK M_L_law M_X7_best 172 := ⟨Or.inl bk_337, by decide, by decide⟩
theorem ck_L_law_175 : CK M_L_law M_X8_best 175 := ⟨Or.inl bk_1306, by decide, by decide⟩
theorem ck_L_law_176 : CK M_L_law M_X7_fewest 176 := ⟨Or.inl bk_441, by decide, by decide⟩
theorem ck_L_law_179 : CK M_L_law M_X8_fewest 179 := ⟨Or.inl bk_1310, by decide, by decide⟩
theorem ck_L_law_182 : CK M_L_law M_L_runScript 182 := ⟨Or.inl bk_911, by decide, by decide⟩
theorem ck_L_law_185 : CK M_L_law M_X8_runScript 185 := ⟨Or.inl bk_1314, by decide, by decide⟩
theorem ck_L_law_186 : CK M_L_law M_L_simulate 186 := ⟨Or.inl bk_928, by decide, by decide⟩
theorem ck_L_law_189 : CK M_L_law M_X8_simulate 189 := ⟨Or.inl bk_1339, by decide, by decide⟩
theorem ck_L_law_190 : CK M_L_law M_L_save 190 := ⟨Or.inl bk_943, by decide, by decide⟩
theorem ck_L_law_192 : CK M_L_law M_X8_save 192 := ⟨Or.inl bk_1353, by decide, by decide⟩
theorem ck_L_law_193 : CK M_L_law M_L_restore 193 := ⟨Or.inl bk_951, by decide, by decide⟩
theorem ck_L_law_195 : CK M_L_law M_X8_restore 195 := ⟨Or.inl bk_1357, by decide, by decide⟩
theorem ck_L_law_90 : CK M_L_law M_X7_init 90 := ⟨Or.inl bk_84, by decide, by decide⟩
theorem ck_L_law_93 : CK M_L_law M_X8_init 93 := ⟨Or.inl bk_961, by decide, by decide⟩
theorem ck_L_law_94 : CK M_L_law M_L_append 94 := ⟨Or.inl bk_470, by decide, by decide⟩
theorem ck_L_law_99 : CK M_L_law M_X8_append 99 := ⟨Or.inl bk_1021, by decide, by decide⟩
theorem ck_L_load_17 : CK M_L_load M_X7_load 17 := ⟨Or.inl bk_574, by decide, by decide⟩
theorem ck_L_looks_61 : CK M_L_looks M_X7_looks 61 := ⟨Or.inl bk_873, by decide, by decide⟩
theorem ck_L_merge_55 : CK M_L_merge M_X7_merge 55 := ⟨Or.inl bk_848, by decide, by decide⟩
theorem ck_L_next_64 : CK M_L_next M_X7_next 64 := ⟨Or.inl bk_881, by decide, by decide⟩
theorem ck_L_open_46 : CK M_L_open M_X7_open 46 := ⟨Or.inl bk_821, by decide, by decide⟩
theorem ck_L_put_40 : CK M_L_put M_X7_put 40 := ⟨Or.inl bk_795, by decide, by decide⟩
theorem ck_L_restore_87 : CK M_L_restore M_X7_restore 87 := ⟨Or.inl bk_954, by decide, by decide⟩
theorem ck_L_runScript_76 : CK M_L_runScript M_X7_runScript 76 := ⟨Or.inl bk_914, by decide, by decide⟩
theorem ck_L_run_30 : CK M_L_run M_X7_run 30 := ⟨Or.inl bk_741, by decide, by decide⟩
theorem ck_L_save_84 : CK M_L_save M_X7_save 84 := ⟨Or.inl bk_946, by decide, by decide⟩
theorem ck_L_saves_73 : CK M_L_saves M_X7_saves 73 := ⟨Or.inl bk_907, by decide, by decide⟩
theorem ck_L_simulate_80 : CK M_L_simulate M_X7_simulate 80 := ⟨Or.inl bk_931, by decide, by decide⟩
theorem ck_L_undo_58 : CK M_L_undo M_X7_undo 58 := ⟨Or.inl bk_857, by decide, by decide⟩
theorem ck_L_write_33 : CK M_L_write M_X7_write 33 := ⟨Or.inl bk_775, by decide, by decide⟩
theorem ck_X0_addRows_102 : CK M_X0_addRows M_X2_has 102 := ⟨Or.inl bk_424, by decide, by decide⟩
theorem ck_X0_addRows_105 : CK M_X0_addRows M_X6_valueAt 105 := ⟨Or.inl bk_428, by decide, by decide⟩
theorem ck_X0_addRows_108 : CK M_X0_addRows M_X6_add 108 := ⟨Or.inl bk_432, by decide, by decide⟩
theorem ck_X0_addRows_71 : CK M_X0_addRows M_X6_numberAt 71 := ⟨Or.inl bk_379, by decide, by decide⟩
theorem ck_X0_addRows_78 : CK M_X0_addRows M_X6_firstAt 78 := ⟨Or.inl bk_388, by decide, by decide⟩
theorem ck_X0_addRows_81 : CK M_X0_addRows M_X6_lastAt 81 := ⟨Or.inl bk_389, by decide, by decide⟩
theorem ck_X0_clean_37 : CK M_X0_clean M_X6_empty 37 := ⟨Or.inl bk_369, by decide, by decide⟩
theorem ck_X0_clean_40 : CK M_X0_clean M_X3_startOf 40 := ⟨Or.inl bk_373, by decide, by decide⟩
theorem ck_X0_clean_46 : CK M_X0_clean M_X3_endOf 46 := ⟨Or.inl bk_374, by decide, by decide⟩
theorem ck_X0_clean_49 : CK M_X0_clean M_X0_dropHidden 49 := ⟨Or.inl bk_375, by decide, by decide⟩
theorem ck_X0_clean_53 : CK M_X0_clean M_X3_runs 53 := ⟨Or.inl bk_407, by decide, by decide⟩
theorem ck_X0_clean_60 : CK M_X0_clean M_X0_dropNeedless 60 := ⟨Or.inl bk_408, by decide, by decide⟩
theorem ck_X0_clean_64 : CK M_X0_clean M_X0_addRows 64 := ⟨Or.inl bk_420, by decide, by decide⟩
theorem ck_X0_clean_68 : CK M_X0_clean M_X6_size 68 := ⟨Or.inl bk_436, by decide, by decide⟩
theorem ck_X0_dropHidden_71 : CK M_X0_dropHidden M_X6_numberAt 71 := ⟨Or.inl bk_379, by decide, by decide⟩
theorem ck_X0_dropHidden_74 : CK M_X0_dropHidden M_X3_eyesBefore 74 := ⟨Or.inl bk_380, by decide, by decide⟩
theorem ck_X0_dropHidden_77 : CK M_X0_dropHidden M_X2_empty 77 := ⟨Or.inl bk_384, by decide, by decide⟩
theorem ck_X0_dropHidden_78 : CK M_X0_dropHidden M_X6_firstAt 78 := ⟨Or.inl bk_388, by decide, by decide⟩
theorem ck_X0_dropHidden_81 : CK M_X0_dropHidden M_X6_lastAt 81 := ⟨Or.inl bk_389, by decide, by decide⟩
theorem ck_X0_dropHidden_84 : CK M_X0_dropHidden M_X2_addRow 84 := ⟨Or.inl bk_393, by decide, by decide⟩
theorem ck_X0_dropHidden_88 : CK M_X0_dropHidden M_X6_isEntry 88 := ⟨Or.inl bk_402, by decide, by decide⟩
theorem ck_X0_dropHidden_92 : CK M_X0_dropHidden M_X2_removeAll 92 := ⟨Or.inl bk_403, by decide, by decide⟩
theorem ck_X0_dropNeedless_77 : CK M_X0_dropNeedless M_X2_empty 77 := ⟨Or.inl bk_384, by decide, by decide⟩
theorem ck_X0_dropNeedless_88 : CK M_X0_dropNeedless M_X6_isEntry 88 := ⟨Or.inl bk_402, by decide, by decide⟩
theorem ck_X0_dropNeedless_96 : CK M_X0_dropNeedless M_X2_addAll 96 := ⟨Or.inl bk_412, by decide, by decide⟩
theorem ck_X0_dropNeedless_99 : CK M_X0_dropNeedless M_X2_keepOnly 99 := ⟨Or.inl bk_416, by decide, by decide⟩
theorem ck_X0_init_11 : CK M_X0_init M_X6_init 11 := ⟨Or.inl bk_98, by decide, by decide⟩
theorem ck_X0_init_26 : CK M_X0_init M_X2_init 26 := ⟨Or.inr ⟨_, tk_125⟩, by decide, by decide⟩
theorem ck_X1_init_17 : CK M_X1_init M_X3_init 17 := ⟨Or.inl bk_210, by decide, by decide⟩
theorem ck_X1_remember_27 : CK M_X1_remember M_X3_become 27 := ⟨Or.inl bk_808, by decide, by decide⟩
theorem ck_X1_takeBack_27 : CK M_X1_takeBack M_X3_become 27 := ⟨Or.inl bk_808, by decide, by decide⟩
theorem ck_X2_size_29 : CK M_X2_size M_J13_bitCount_95d88 29 := ⟨Or.inl bk_765, by decide, by decide⟩
theorem ck_X3_addWrite_118 : CK M_X3_addWrite M_X6_add 118 := ⟨Or.inl bk_613, by decide, by decide⟩
theorem ck_X3_become_47 : CK M_X3_become M_X6_size 47 := ⟨Or.inl bk_301, by decide, by decide⟩
theorem ck_X3_become_51 : CK M_X3_become M_X6_replace 51 := ⟨Or.inl bk_449, by decide, by decide⟩
theorem ck_X3_canFlush_109 : CK M_X3_canFlush M_X3_sizeOf 109 := ⟨Or.inl bk_353, by decide, by decide⟩
theorem ck_X3_canFlush_112 : CK M_X3_canFlush M_X0_clean 112 := ⟨Or.inl bk_365, by decide, by decide⟩
theorem ck_X3_canFlush_69 : CK M_X3_canFlush M_X3_startOf 69 := ⟨Or.inl bk_361, by decide, by decide⟩
theorem ck_X3_canMerge_109 : CK M_X3_canMerge M_X3_sizeOf 109 := ⟨Or.inl bk_353, by decide, by decide⟩
theorem ck_X3_canMerge_112 : CK M_X3_canMerge M_X0_clean 112 := ⟨Or.inl bk_365, by decide, by decide⟩
theorem ck_X3_canMerge_47 : CK M_X3_canMerge M_X6_size 47 := ⟨Or.inl bk_301, by decide, by decide⟩
theorem ck_X3_canMerge_61 : CK M_X3_canMerge M_X3_isRun 61 := ⟨Or.inl bk_349, by decide, by decide⟩
theorem ck_X3_dropEye_89 : CK M_X3_dropEye M_X3_isEye 89 := ⟨Or.inl bk_321, by decide, by decide⟩
theorem ck_X3_empty_31 : CK M_X3_empty M_X6_empty 31 := ⟨Or.inl bk_583, by decide, by decide⟩
theorem ck_X3_endOf_47 : CK M_X3_endOf M_X6_size 47 := ⟨Or.inl bk_301, by decide, by decide⟩
theorem ck_X3_entriesIn_72 : CK M_X3_entriesIn M_X6_isEntry 72 := ⟨Or.inl bk_672, by decide, by decide⟩
theorem ck_X3_flushMemory_109 : CK M_X3_flushMemory M_X3_sizeOf 109 := ⟨Or.inl bk_353, by decide, by decide⟩
theorem ck_X3_flushMemory_112 : CK M_X3_flushMemory M_X0_clean 112 := ⟨Or.inl bk_365, by decide, by decide⟩
theorem ck_X3_flushMemory_47 : CK M_X3_flushMemory M_X6_size 47 := ⟨Or.inl bk_301, by decide, by decide⟩
theorem ck_X3_flushMemory_51 : CK M_X3_flushMemory M_X6_replace 51 := ⟨Or.inl bk_449, by decide, by decide⟩
theorem ck_X3_flushMemory_65 : CK M_X3_flushMemory M_X3_endOf 65 := ⟨Or.inl bk_357, by decide, by decide⟩
theorem ck_X3_flushMemory_69 : CK M_X3_flushMemory M_X3_startOf 69 := ⟨Or.inl bk_361, by decide, by decide⟩
theorem ck_X3_init_24 : CK M_X3_init M_X6_init 24 := ⟨Or.inl bk_173, by decide, by decide⟩
theorem ck_X3_isFull_47 : CK M_X3_isFull M_X6_size 47 := ⟨Or.inl bk_301, by decide, by decide⟩
theorem ck_X3_isPlace_61 : CK M_X3_isPlace M_X3_isRun 61 := ⟨Or.inl bk_349, by decide, by decide⟩
theorem ck_X3_isSeen_106 : CK M_X3_isSeen M_X3_limitOf 106 := ⟨Or.inl bk_317, by decide, by decide⟩
theorem ck_X3_isSeen_78 : CK M_X3_isSeen M_X6_firstAt 78 := ⟨Or.inl bk_313, by decide, by decide⟩
theorem ck_X3_isSeen_99 : CK M_X3_isSeen M_X3_newestFor 99 := ⟨Or.inl bk_325, by decide, by decide⟩
theorem ck_X3_isView_89 : CK M_X3_isView M_X3_isEye 89 := ⟨Or.inl bk_321, by decide, by decide⟩
theorem ck_X3_keysIn_65 : CK M_X3_keysIn M_X3_endOf 65 := ⟨Or.inl bk_357, by decide, by decide⟩
theorem ck_X3_keysIn_69 : CK M_X3_keysIn M_X3_startOf 69 := ⟨Or.inl bk_361, by decide, by decide⟩
theorem ck_X3_keysIn_77 : CK M_X3_keysIn M_X2_init 77 := ⟨Or.inr ⟨_, tk_758⟩, by decide, by decide⟩
theorem ck_X3_keysIn_78 : CK M_X3_keysIn M_X6_firstAt 78 := ⟨Or.inl bk_313, by decide, by decide⟩
theorem ck_X3_keysIn_81 : CK M_X3_keysIn M_X6_lastAt 81 := ⟨Or.inl bk_759, by decide, by decide⟩
theorem ck_X3_keysIn_84 : CK M_X3_keysIn M_X2_addRow 84 := ⟨Or.inl bk_760, by decide, by decide⟩
theorem ck_X3_keysIn_88 : CK M_X3_keysIn M_X2_size 88 := ⟨Or.inl bk_761, by decide, by decide⟩
theorem ck_X3_limitOf_89 : CK M_X3_limitOf M_X3_isEye 89 := ⟨Or.inl bk_321, by decide, by decide⟩
theorem ck_X3_mergeRuns_109 : CK M_X3_mergeRuns M_X3_sizeOf 109 := ⟨Or.inl bk_353, by decide, by decide⟩
theorem ck_X3_mergeRuns_112 : CK M_X3_mergeRuns M_X0_clean 112 := ⟨Or.inl bk_365, by decide, by decide⟩
theorem ck_X3_mergeRuns_51 : CK M_X3_mergeRuns M_X6_replace 51 := ⟨Or.inl bk_449, by decide, by decide⟩
theorem ck_X3_mergeRuns_65 : CK M_X3_mergeRuns M_X3_endOf 65 := ⟨Or.inl bk_357, by decide, by decide⟩
theorem ck_X3_mergeRuns_69 : CK M_X3_mergeRuns M_X3_startOf 69 := ⟨Or.inl bk_361, by decide, by decide⟩
theorem ck_X3_newestFor_47 : CK M_X3_newestFor M_X6_size 47 := ⟨Or.inl bk_301, by decide, by decide⟩
theorem ck_X3_newestFor_92 : CK M_X3_newestFor M_X6_numberAt 92 := ⟨Or.inl bk_329, by decide, by decide⟩
theorem ck_X3_newestFor_95 : CK M_X3_newestFor M_X6_concerns 95 := ⟨Or.inl bk_333, by decide, by decide⟩
theorem ck_X3_savedBy_109 : CK M_X3_savedBy M_X3_sizeOf 109 := ⟨Or.inl bk_353, by decide, by decide⟩
theorem ck_X3_savedBy_112 : CK M_X3_savedBy M_X0_clean 112 := ⟨Or.inl bk_365, by decide, by decide⟩
theorem ck_X3_sizeOf_65 : CK M_X3_sizeOf M_X3_endOf 65 := ⟨Or.inl bk_357, by decide, by decide⟩
theorem ck_X3_sizeOf_69 : CK M_X3_sizeOf M_X3_startOf 69 := ⟨Or.inl bk_361, by decide, by decide⟩
theorem ck_X3_size_47 : CK M_X3_size M_X6_size 47 := ⟨Or.inl bk_301, by decide, by decide⟩
theorem ck_X3_tryBury_125 : CK M_X3_tryBury M_X7_isKey 125 := ⟨Or.inr ⟨_, tk_599⟩, by decide, by decide⟩
theorem ck_X3_tryBury_131 : CK M_X3_tryBury M_X3_isFull 131 := ⟨Or.inl bk_605, by decide, by decide⟩
theorem ck_X3_tryBury_135 : CK M_X3_tryBury M_X3_addWrite 135 := ⟨Or.inl bk_609, by decide, by decide⟩
theorem ck_X3_tryClose_145 : CK M_X3_tryClose M_X3_dropEye 145 := ⟨Or.inl bk_649, by decide, by decide⟩
theorem ck_X3_tryClose_89 : CK M_X3_tryClose M_X3_isEye 89 := ⟨Or.inl bk_321, by decide, by decide⟩
theorem ck_X3_tryFlush_148 : CK M_X3_tryFlush M_X3_canFlush 148 := ⟨Or.inl bk_622, by decide, by decide⟩
theorem ck_X3_tryFlush_151 : CK M_X3_tryFlush M_X3_flushMemory 151 := ⟨Or.inl bk_626, by decide, by decide⟩
theorem ck_X3_tryMerge_154 : CK M_X3_tryMerge M_X3_canMerge 154 := ⟨Or.inl bk_631, by decide, by decide⟩
theorem ck_X3_tryMerge_157 : CK M_X3_tryMerge M_X3_mergeRuns 157 := ⟨Or.inl bk_632, by decide, by decide⟩
theorem ck_X3_tryOpen_139 : CK M_X3_tryOpen M_X3_canOpen 139 := ⟨Or.inl bk_637, by decide, by decide⟩
theorem ck_X3_tryOpen_142 : CK M_X3_tryOpen M_X3_addEye 142 := ⟨Or.inl bk_641, by decide, by decide⟩
theorem ck_X3_tryPut_125 : CK M_X3_tryPut M_X7_isKey 125 := ⟨Or.inr ⟨_, tk_599⟩, by decide, by decide⟩
theorem ck_X3_tryPut_128 : CK M_X3_tryPut M_X7_isValue 128 := ⟨Or.inr ⟨_, tk_602⟩, by decide, by decide⟩
theorem ck_X3_tryPut_131 : CK M_X3_tryPut M_X3_isFull 131 := ⟨Or.inl bk_605, by decide, by decide⟩
theorem ck_X3_tryPut_135 : CK M_X3_tryPut M_X3_addWrite 135 := ⟨Or.inl bk_609, by decide, by decide⟩
theorem ck_X3_valueFor_103 : CK M_X3_valueFor M_X6_valueAt 103 := ⟨Or.inl bk_737, by decide, by decide⟩
theorem ck_X3_valueFor_99 : CK M_X3_valueFor M_X3_newestFor 99 := ⟨Or.inl bk_325, by decide, by decide⟩
theorem ck_X4_digitFits_19 : CK M_X4_digitFits M_X4_signAt 19 := ⟨Or.inl bk_274, by decide, by decide⟩
theorem ck_X4_digitFits_30 : CK M_X4_digitFits M_X4_isDigit 30 := ⟨Or.inl bk_285, by decide, by decide⟩
theorem ck_X4_digitFits_34 : CK M_X4_digitFits M_X4_digitsAt 34 := ⟨Or.inl bk_289, by decide, by decide⟩
theorem ck_X4_digitsAt_19 : CK M_X4_digitsAt M_X4_signAt 19 := ⟨Or.inl bk_274, by decide, by decide⟩
theorem ck_X4_firstError_19 : CK M_X4_firstError M_X4_signAt 19 := ⟨Or.inl bk_274, by decide, by decide⟩
theorem ck_X4_firstError_23 : CK M_X4_firstError M_X4_digitsOf 23 := ⟨Or.inl bk_278, by decide, by decide⟩
theorem ck_X4_firstError_26 : CK M_X4_firstError M_X4_digitFits 26 := ⟨Or.inl bk_281, by decide, by decide⟩
theorem ck_X4_isDigit_19 : CK M_X4_isDigit M_X4_signAt 19 := ⟨Or.inl bk_274, by decide, by decide⟩
theorem ck_X5_look_15 : CK M_X5_look M_J7_fill_53178 15 := ⟨Or.inl bk_681, by decide, by decide⟩
theorem ck_X5_look_27 : CK M_X5_look M_X6_size 27 := ⟨Or.inl bk_684, by decide, by decide⟩
theorem ck_X5_look_33 : CK M_X5_look M_X6_numberAt 33 := ⟨Or.inl bk_685, by decide, by decide⟩
theorem ck_X5_look_37 : CK M_X5_look M_X6_firstAt 37 := ⟨Or.inl bk_686, by decide, by decide⟩
theorem ck_X5_look_46 : CK M_X5_look M_X6_lastAt 46 := ⟨Or.inl bk_688, by decide, by decide⟩
theorem ck_X5_look_49 : CK M_X5_look M_X6_valueAt 49 := ⟨Or.inl bk_689, by decide, by decide⟩
theorem ck_X7_about_101 : CK M_X7_about M_X3_sizeOf 101 := ⟨Or.inl bk_461, by decide, by decide⟩
theorem ck_X7_about_105 : CK M_X7_about M_X3_runs 105 := ⟨Or.inl bk_341, by decide, by decide⟩
theorem ck_X7_about_108 : CK M_X7_about M_X3_eyes 108 := ⟨Or.inl bk_664, by decide, by decide⟩
theorem ck_X7_about_111 : CK M_X7_about M_X3_size 111 := ⟨Or.inl bk_297, by decide, by decide⟩
theorem ck_X7_about_114 : CK M_X7_about M_X3_entriesIn 114 := ⟨Or.inl bk_668, by decide, by decide⟩
theorem ck_X7_about_118 : CK M_X7_about M_X7_seenNow 118 := ⟨Or.inl bk_673, by decide, by decide⟩
theorem ck_X7_about_122 : CK M_X7_about M_X5_look 122 := ⟨Or.inl bk_677, by decide, by decide⟩
theorem ck_X7_about_126 : CK M_X7_about M_X5_sum 126 := ⟨Or.inl bk_694, by decide, by decide⟩
theorem ck_X7_about_129 : CK M_X7_about M_X3_fewer 129 := ⟨Or.inl bk_698, by decide, by decide⟩
theorem ck_X7_about_98 : CK M_X7_about M_X3_latest 98 := ⟨Or.inl bk_660, by decide, by decide⟩
theorem ck_X7_append_62 : CK M_X7_append M_X4_isFull 62 := ⟨Or.inl bk_547, by decide, by decide⟩
theorem ck_X7_append_71 : CK M_X7_append M_X4_addSign 71 := ⟨Or.inl bk_567, by decide, by decide⟩
theorem ck_X7_append_75 : CK M_X7_append M_X4_length 75 := ⟨Or.inl bk_258, by decide, by decide⟩
theorem ck_X7_best_105 : CK M_X7_best M_X3_runs 105 := ⟨Or.inl bk_341, by decide, by decide⟩
theorem ck_X7_best_237 : CK M_X7_best M_X3_canMerge 237 := ⟨Or.inl bk_345, by decide, by decide⟩
theorem ck_X7_best_267 : CK M_X7_best M_X3_savedBy 267 := ⟨Or.inl bk_437, by decide, by decide⟩
theorem ck_X7_bury_122 : CK M_X7_bury M_X5_look 122 := ⟨Or.inl bk_677, by decide, by decide⟩
theorem ck_X7_bury_134 : CK M_X7_bury M_X7_isKey 134 := ⟨Or.inl bk_711, by decide, by decide⟩
theorem ck_X7_bury_199 : CK M_X7_bury M_X3_isFull 199 := ⟨Or.inl bk_802, by decide, by decide⟩
theorem ck_X7_bury_202 : CK M_X7_bury M_X1_remember 202 := ⟨Or.inl bk_804, by decide, by decide⟩
theorem ck_X7_bury_206 : CK M_X7_bury M_X3_addWrite 206 := ⟨Or.inl bk_809, by decide, by decide⟩
theorem ck_X7_bury_212 : CK M_X7_bury M_X5_seenIn 212 := ⟨Or.inl bk_690, by decide, by decide⟩
theorem ck_X7_bury_98 : CK M_X7_bury M_X3_latest 98 := ⟨Or.inl bk_660, by decide, by decide⟩
theorem ck_X7_clearText_75 : CK M_X7_clearText M_X4_length 75 := ⟨Or.inl bk_258, by decide, by decide⟩
theorem ck_X7_clearText_79 : CK M_X7_clearText M_X4_empty 79 := ⟨Or.inl bk_262, by decide, by decide⟩
theorem ck_X7_close_108 : CK M_X7_close M_X3_eyes 108 := ⟨Or.inl bk_664, by decide, by decide⟩
theorem ck_X7_close_187 : CK M_X7_close M_X3_isEye 187 := ⟨Or.inl bk_790, by decide, by decide⟩
theorem ck_X7_close_202 : CK M_X7_close M_X1_remember 202 := ⟨Or.inl bk_804, by decide, by decide⟩
theorem ck_X7_close_223 : CK M_X7_close M_X3_dropEye 223 := ⟨Or.inl bk_835, by decide, by decide⟩
theorem ck_X7_count_122 : CK M_X7_count M_X5_look 122 := ⟨Or.inl bk_677, by decide, by decide⟩
theorem ck_X7_count_134 : CK M_X7_count M_X7_isKey 134 := ⟨Or.inl bk_711, by decide, by decide⟩
theorem ck_X7_count_137 : CK M_X7_count M_X3_isView 137 := ⟨Or.inl bk_712, by decide, by decide⟩
theorem ck_X7_count_145 : CK M_X7_count M_X3_limitOf 145 := ⟨Or.inl bk_732, by decide, by decide⟩
theorem ck_X7_count_212 : CK M_X7_count M_X5_seenIn 212 := ⟨Or.inl bk_690, by decide, by decide⟩
theorem ck_X7_doGroup_111 : CK M_X7_doGroup M_X3_size 111 := ⟨Or.inl bk_297, by decide, by decide⟩
theorem ck_X7_doGroup_145 : CK M_X7_doGroup M_X3_limitOf 145 := ⟨Or.inl bk_732, by decide, by decide⟩
theorem ck_X7_doGroup_148 : CK M_X7_doGroup M_X3_valueFor 148 := ⟨Or.inl bk_733, by decide, by decide⟩
theorem ck_X7_doGroup_187 : CK M_X7_doGroup M_X3_isEye 187 := ⟨Or.inl bk_790, by decide, by decide⟩
theorem ck_X7_doGroup_308 : CK M_X7_doGroup M_X3_tryPut 308 := ⟨Or.inl bk_595, by decide, by decide⟩
theorem ck_X7_doGroup_311 : CK M_X7_doGroup M_X3_tryBury 311 := ⟨Or.inl bk_614, by decide, by decide⟩
theorem ck_X7_doGroup_314 : CK M_X7_doGroup M_X3_tryFlush 314 := ⟨Or.inl bk_618, by decide, by decide⟩
theorem ck_X7_doGroup_317 : CK M_X7_doGroup M_X3_tryMerge 317 := ⟨Or.inl bk_627, by decide, by decide⟩
theorem ck_X7_doGroup_320 : CK M_X7_doGroup M_X3_tryOpen 320 := ⟨Or.inl bk_633, by decide, by decide⟩
theorem ck_X7_doGroup_323 : CK M_X7_doGroup M_X3_tryClose 323 := ⟨Or.inl bk_645, by decide, by decide⟩
theorem ck_X7_doGroup_98 : CK M_X7_doGroup M_X3_latest 98 := ⟨Or.inl bk_660, by decide, by decide⟩
theorem ck_X7_doTextCommand_302 : CK M_X7_doTextCommand M_X4_signAt 302 := ⟨Or.inl bk_593, by decide, by decide⟩
theorem ck_X7_doTextCommand_305 : CK M_X7_doTextCommand M_X4_digitsAt 305 := ⟨Or.inl bk_594, by decide, by decide⟩
theorem ck_X7_doTextCommand_308 : CK M_X7_doTextCommand M_X3_tryPut 308 := ⟨Or.inl bk_595, by decide, by decide⟩
theorem ck_X7_doTextCommand_311 : CK M_X7_doTextCommand M_X3_tryBury 311 := ⟨Or.inl bk_614, by decide, by decide⟩
theorem ck_X7_doTextCommand_314 : CK M_X7_doTextCommand M_X3_tryFlush 314 := ⟨Or.inl bk_618, by decide, by decide⟩
theorem ck_X7_doTextCommand_317 : CK M_X7_doTextCommand M_X3_tryMerge 317 := ⟨Or.inl bk_627, by decide, by decide⟩
theorem ck_X7_doTextCommand_320 : CK M_X7_doTextCommand M_X3_tryOpen 320 := ⟨Or.inl bk_633, by decide, by decide⟩
theorem ck_X7_doTextCommand_323 : CK M_X7_doTextCommand M_X3_tryClose 323 := ⟨Or.inl bk_645, by decide, by decide⟩
theorem ck_X7_doTurn_308 : CK M_X7_doTurn M_X3_tryPut 308 := ⟨Or.inl bk_595, by decide, by decide⟩
theorem ck_X7_doTurn_311 : CK M_X7_doTurn M_X3_tryBury 311 := ⟨Or.inl bk_614, by decide, by decide⟩
theorem ck_X7_doTurn_314 : CK M_X7_doTurn M_X3_tryFlush 314 := ⟨Or.inl bk_618, by decide, by decide⟩
theorem ck_X7_doTurn_317 : CK M_X7_doTurn M_X3_tryMerge 317 := ⟨Or.inl bk_627, by decide, by decide⟩
theorem ck_X7_doTurn_320 : CK M_X7_doTurn M_X3_tryOpen 320 := ⟨Or.inl bk_633, by decide, by decide⟩
theorem ck_X7_doTurn_323 : CK M_X7_doTurn M_X3_tryClose 323 := ⟨Or.inl bk_645, by decide, by decide⟩
theorem ck_X7_errorPosition_82 : CK M_X7_errorPosition M_X4_firstError 82 := ⟨Or.inl bk_270, by decide, by decide⟩
theorem ck_X7_eye_145 : CK M_X7_eye M_X3_limitOf 145 := ⟨Or.inl bk_732, by decide, by decide⟩
theorem ck_X7_eye_187 : CK M_X7_eye M_X3_isEye 187 := ⟨Or.inl bk_790, by decide, by decide⟩
theorem ck_X7_fewest_101 : CK M_X7_fewest M_X3_sizeOf 101 := ⟨Or.inl bk_461, by decide, by decide⟩
theorem ck_X7_fewest_105 : CK M_X7_fewest M_X3_runs 105 := ⟨Or.inl bk_341, by decide, by decide⟩
theorem ck_X7_fewest_111 : CK M_X7_fewest M_X3_size 111 := ⟨Or.inl bk_297, by decide, by decide⟩
theorem ck_X7_fewest_231 : CK M_X7_fewest M_X3_flushMemory 231 := ⟨Or.inl bk_462, by decide, by decide⟩
theorem ck_X7_fewest_242 : CK M_X7_fewest M_X3_mergeRuns 242 := ⟨Or.inl bk_466, by decide, by decide⟩
theorem ck_X7_fewest_270 : CK M_X7_fewest M_X3_become 270 := ⟨Or.inl bk_445, by decide, by decide⟩
theorem ck_X7_fewest_273 : CK M_X7_fewest M_X3_dropAllEyes 273 := ⟨Or.inl bk_457, by decide, by decide⟩
theorem ck_X7_flush_202 : CK M_X7_flush M_X1_remember 202 := ⟨Or.inl bk_804, by decide, by decide⟩
theorem ck_X7_flush_226 : CK M_X7_flush M_X3_canFlush 226 := ⟨Or.inl bk_843, by decide, by decide⟩
theorem ck_X7_flush_231 : CK M_X7_flush M_X3_flushMemory 231 := ⟨Or.inl bk_462, by decide, by decide⟩
theorem ck_X7_get_134 : CK M_X7_get M_X7_isKey 134 := ⟨Or.inl bk_711, by decide, by decide⟩
theorem ck_X7_get_137 : CK M_X7_get M_X3_isView 137 := ⟨Or.inl bk_712, by decide, by decide⟩
theorem ck_X7_get_145 : CK M_X7_get M_X3_limitOf 145 := ⟨Or.inl bk_732, by decide, by decide⟩
theorem ck_X7_get_148 : CK M_X7_get M_X3_valueFor 148 := ⟨Or.inl bk_733, by decide, by decide⟩
theorem ck_X7_grave_111 : CK M_X7_grave M_X3_size 111 := ⟨Or.inl bk_297, by decide, by decide⟩
theorem ck_X7_grave_134 : CK M_X7_grave M_X7_isKey 134 := ⟨Or.inl bk_711, by decide, by decide⟩
theorem ck_X7_grave_166 : CK M_X7_grave M_X6_numberAt 166 := ⟨Or.inl bk_752, by decide, by decide⟩
theorem ck_X7_grave_257 : CK M_X7_grave M_X6_isEntry 257 := ⟨Or.inl bk_305, by decide, by decide⟩
theorem ck_X7_grave_263 : CK M_X7_grave M_X6_concerns 263 := ⟨Or.inl bk_903, by decide, by decide⟩
theorem ck_X7_hidden_111 : CK M_X7_hidden M_X3_size 111 := ⟨Or.inl bk_297, by decide, by decide⟩
theorem ck_X7_hidden_257 : CK M_X7_hidden M_X6_isEntry 257 := ⟨Or.inl bk_305, by decide, by decide⟩
theorem ck_X7_hidden_260 : CK M_X7_hidden M_X3_isSeen 260 := ⟨Or.inl bk_309, by decide, by decide⟩
theorem ck_X7_init_11 : CK M_X7_init M_X0_init 11 := ⟨Or.inl bk_92, by decide, by decide⟩
theorem ck_X7_init_14 : CK M_X7_init M_X4_init 14 := ⟨Or.inr ⟨_, tk_155⟩, by decide, by decide⟩
theorem ck_X7_init_21 : CK M_X7_init M_X3_init 21 := ⟨Or.inl bk_168, by decide, by decide⟩
theorem ck_X7_init_33 : CK M_X7_init M_X1_init 33 := ⟨Or.inl bk_204, by decide, by decide⟩
theorem ck_X7_init_50 : CK M_X7_init M_X5_init 50 := ⟨Or.inr ⟨_, tk_223⟩, by decide, by decide⟩
theorem ck_X7_load_75 : CK M_X7_load M_X4_length 75 := ⟨Or.inl bk_258, by decide, by decide⟩
theorem ck_X7_load_82 : CK M_X7_load M_X4_firstError 82 := ⟨Or.inl bk_270, by decide, by decide⟩
theorem ck_X7_load_87 : CK M_X7_load M_X3_empty 87 := ⟨Or.inl bk_579, by decide, by decide⟩
theorem ck_X7_load_88 : CK M_X7_load M_X1_forgetAll 88 := ⟨Or.inl bk_584, by decide, by decide⟩
theorem ck_X7_load_91 : CK M_X7_load M_X4_isDigit 91 := ⟨Or.inl bk_588, by decide, by decide⟩
theorem ck_X7_load_95 : CK M_X7_load M_X7_doTextCommand 95 := ⟨Or.inl bk_589, by decide, by decide⟩
theorem ck_X7_looks_101 : CK M_X7_looks M_X3_sizeOf 101 := ⟨Or.inl bk_461, by decide, by decide⟩
theorem ck_X7_looks_105 : CK M_X7_looks M_X3_runs 105 := ⟨Or.inl bk_341, by decide, by decide⟩
theorem ck_X7_looks_134 : CK M_X7_looks M_X7_isKey 134 := ⟨Or.inl bk_711, by decide, by decide⟩
theorem ck_X7_looks_156 : CK M_X7_looks M_X3_startOf 156 := ⟨Or.inl bk_750, by decide, by decide⟩
theorem ck_X7_looks_251 : CK M_X7_looks M_X3_newestFor 251 := ⟨Or.inl bk_877, by decide, by decide⟩
theorem ck_X7_looks_98 : CK M_X7_looks M_X3_latest 98 := ⟨Or.inl bk_660, by decide, by decide⟩
theorem ck_X7_merge_202 : CK M_X7_merge M_X1_remember 202 := ⟨Or.inl bk_804, by decide, by decide⟩
theorem ck_X7_merge_234 : CK M_X7_merge M_X3_isRun 234 := ⟨Or.inl bk_852, by decide, by decide⟩
theorem ck_X7_merge_237 : CK M_X7_merge M_X3_canMerge 237 := ⟨Or.inl bk_345, by decide, by decide⟩
theorem ck_X7_merge_242 : CK M_X7_merge M_X3_mergeRuns 242 := ⟨Or.inl bk_466, by decide, by decide⟩
theorem ck_X7_next_122 : CK M_X7_next M_X5_look 122 := ⟨Or.inl bk_677, by decide, by decide⟩
theorem ck_X7_next_134 : CK M_X7_next M_X7_isKey 134 := ⟨Or.inl bk_711, by decide, by decide⟩
theorem ck_X7_next_137 : CK M_X7_next M_X3_isView 137 := ⟨Or.inl bk_712, by decide, by decide⟩
theorem ck_X7_next_145 : CK M_X7_next M_X3_limitOf 145 := ⟨Or.inl bk_732, by decide, by decide⟩
theorem ck_X7_next_254 : CK M_X7_next M_X5_firstSeen 254 := ⟨Or.inl bk_885, by decide, by decide⟩
theorem ck_X7_open_108 : CK M_X7_open M_X3_eyes 108 := ⟨Or.inl bk_664, by decide, by decide⟩
theorem ck_X7_open_202 : CK M_X7_open M_X1_remember 202 := ⟨Or.inl bk_804, by decide, by decide⟩
theorem ck_X7_open_215 : CK M_X7_open M_X3_canOpen 215 := ⟨Or.inl bk_825, by decide, by decide⟩
theorem ck_X7_open_220 : CK M_X7_open M_X3_addEye 220 := ⟨Or.inl bk_827, by decide, by decide⟩
theorem ck_X7_put_134 : CK M_X7_put M_X7_isKey 134 := ⟨Or.inl bk_711, by decide, by decide⟩
theorem ck_X7_put_194 : CK M_X7_put M_X7_isValue 194 := ⟨Or.inl bk_800, by decide, by decide⟩
theorem ck_X7_put_199 : CK M_X7_put M_X3_isFull 199 := ⟨Or.inl bk_802, by decide, by decide⟩
theorem ck_X7_put_202 : CK M_X7_put M_X1_remember 202 := ⟨Or.inl bk_804, by decide, by decide⟩
theorem ck_X7_put_206 : CK M_X7_put M_X3_addWrite 206 := ⟨Or.inl bk_809, by decide, by decide⟩
theorem ck_X7_put_98 : CK M_X7_put M_X3_latest 98 := ⟨Or.inl bk_660, by decide, by decide⟩
theorem ck_X7_restore_111 : CK M_X7_restore M_X3_size 111 := ⟨Or.inl bk_297, by decide, by decide⟩
theorem ck_X7_restore_270 : CK M_X7_restore M_X3_become 270 := ⟨Or.inl bk_445, by decide, by decide⟩
theorem ck_X7_restore_88 : CK M_X7_restore M_X1_forgetAll 88 := ⟨Or.inl bk_584, by decide, by decide⟩
theorem ck_X7_runScript_270 : CK M_X7_runScript M_X3_become 270 := ⟨Or.inl bk_445, by decide, by decide⟩
theorem ck_X7_runScript_278 : CK M_X7_runScript M_X7_withoutLast 278 := ⟨Or.inl bk_919, by decide, by decide⟩
theorem ck_X7_runScript_286 : CK M_X7_runScript M_X7_doGroup 286 := ⟨Or.inl bk_924, by decide, by decide⟩
theorem ck_X7_run_101 : CK M_X7_run M_X3_sizeOf 101 := ⟨Or.inl bk_461, by decide, by decide⟩
theorem ck_X7_run_114 : CK M_X7_run M_X3_entriesIn 114 := ⟨Or.inl bk_668, by decide, by decide⟩
theorem ck_X7_run_151 : CK M_X7_run M_X3_isPlace 151 := ⟨Or.inl bk_745, by decide, by decide⟩
theorem ck_X7_run_156 : CK M_X7_run M_X3_startOf 156 := ⟨Or.inl bk_750, by decide, by decide⟩
theorem ck_X7_run_159 : CK M_X7_run M_X3_endOf 159 := ⟨Or.inl bk_751, by decide, by decide⟩
theorem ck_X7_run_166 : CK M_X7_run M_X6_numberAt 166 := ⟨Or.inl bk_752, by decide, by decide⟩
theorem ck_X7_run_171 : CK M_X7_run M_X3_keysIn 171 := ⟨Or.inl bk_753, by decide, by decide⟩
theorem ck_X7_save_111 : CK M_X7_save M_X3_size 111 := ⟨Or.inl bk_297, by decide, by decide⟩
theorem ck_X7_save_270 : CK M_X7_save M_X3_become 270 := ⟨Or.inl bk_445, by decide, by decide⟩
theorem ck_X7_saves_234 : CK M_X7_saves M_X3_isRun 234 := ⟨Or.inl bk_852, by decide, by decide⟩
theorem ck_X7_saves_237 : CK M_X7_saves M_X3_canMerge 237 := ⟨Or.inl bk_345, by decide, by decide⟩
theorem ck_X7_saves_267 : CK M_X7_saves M_X3_savedBy 267 := ⟨Or.inl bk_437, by decide, by decide⟩
theorem ck_X7_seenNow_122 : CK M_X7_seenNow M_X5_look 122 := ⟨Or.inl bk_677, by decide, by decide⟩
theorem ck_X7_seenNow_212 : CK M_X7_seenNow M_X5_seenIn 212 := ⟨Or.inl bk_690, by decide, by decide⟩
theorem ck_X7_seenNow_98 : CK M_X7_seenNow M_X3_latest 98 := ⟨Or.inl bk_660, by decide, by decide⟩
theorem ck_X7_simulate_111 : CK M_X7_simulate M_X3_size 111 := ⟨Or.inl bk_297, by decide, by decide⟩
theorem ck_X7_simulate_118 : CK M_X7_simulate M_X7_seenNow 118 := ⟨Or.inl bk_673, by decide, by decide⟩
theorem ck_X7_simulate_270 : CK M_X7_simulate M_X3_become 270 := ⟨Or.inl bk_445, by decide, by decide⟩
theorem ck_X7_simulate_295 : CK M_X7_simulate M_X7_doTurn 295 := ⟨Or.inl bk_938, by decide, by decide⟩
theorem ck_X7_undo_245 : CK M_X7_undo M_X1_size 245 := ⟨Or.inl bk_861, by decide, by decide⟩
theorem ck_X7_undo_248 : CK M_X7_undo M_X1_takeBack 248 := ⟨Or.inl bk_866, by decide, by decide⟩
theorem ck_X7_write_101 : CK M_X7_write M_X3_sizeOf 101 := ⟨Or.inl bk_461, by decide, by decide⟩
theorem ck_X7_write_151 : CK M_X7_write M_X3_isPlace 151 := ⟨Or.inl bk_745, by decide, by decide⟩
theorem ck_X7_write_156 : CK M_X7_write M_X3_startOf 156 := ⟨Or.inl bk_750, by decide, by decide⟩
theorem ck_X7_write_166 : CK M_X7_write M_X6_numberAt 166 := ⟨Or.inl bk_752, by decide, by decide⟩
theorem ck_X7_write_178 : CK M_X7_write M_X6_firstAt 178 := ⟨Or.inl bk_780, by decide, by decide⟩
theorem ck_X7_write_181 : CK M_X7_write M_X6_lastAt 181 := ⟨Or.inl bk_781, by decide, by decide⟩
theorem ck_X7_write_184 : CK M_X7_write M_X6_valueAt 184 := ⟨Or.inl bk_782, by decide, by decide⟩
theorem ck_X8_about_124 : CK M_X8_about M_X8_holds 124 := ⟨Or.inl bk_1028, by decide, by decide⟩
theorem ck_X8_about_197 : CK M_X8_about M_X8_told 197 := ⟨Or.inl bk_1186, by decide, by decide⟩
theorem ck_X8_about_39 : CK M_X8_about M_X8_in 39 := ⟨Or.inl bk_1025, by decide, by decide⟩
theorem ck_X8_all_46 : CK M_X8_all M_X8_begin 46 := ⟨Or.inl bk_1071, by decide, by decide⟩
theorem ck_X8_append_124 : CK M_X8_append M_X8_holds 124 := ⟨Or.inl bk_1028, by decide, by decide⟩
theorem ck_X8_append_39 : CK M_X8_append M_X8_in 39 := ⟨Or.inl bk_1025, by decide, by decide⟩
theorem ck_X8_best_158 : CK M_X8_best M_X8_mergeFault 158 := ⟨Or.inl bk_1122, by decide, by decide⟩
theorem ck_X8_best_227 : CK M_X8_best M_X8_savedBy 227 := ⟨Or.inl bk_1302, by decide, by decide⟩
theorem ck_X8_buries_100 : CK M_X8_buries M_X8_countSeen 100 := ⟨Or.inl bk_1142, by decide, by decide⟩
theorem ck_X8_buries_104 : CK M_X8_buries M_X8_writes 104 := ⟨Or.inl bk_1134, by decide, by decide⟩
theorem ck_X8_buryFault_54 : CK M_X8_buryFault M_X8_all 54 := ⟨Or.inl bk_1067, by decide, by decide⟩
theorem ck_X8_buryFault_97 : CK M_X8_buryFault M_X8_isKey 97 := ⟨Or.inl bk_1064, by decide, by decide⟩
theorem ck_X8_bury_124 : CK M_X8_bury M_X8_holds 124 := ⟨Or.inl bk_1028, by decide, by decide⟩
theorem ck_X8_bury_152 : CK M_X8_bury M_X8_buryFault 152 := ⟨Or.inl bk_1075, by decide, by decide⟩
theorem ck_X8_bury_164 : CK M_X8_bury M_X8_buries 164 := ⟨Or.inl bk_1138, by decide, by decide⟩
theorem ck_X8_bury_212 : CK M_X8_bury M_X8_remember 212 := ⟨Or.inl bk_1234, by decide, by decide⟩
theorem ck_X8_clean_50 : CK M_X8_clean M_X8_of 50 := ⟨Or.inl bk_1091, by decide, by decide⟩
theorem ck_X8_clean_68 : CK M_X8_clean M_X8_isEntry 68 := ⟨Or.inl bk_1087, by decide, by decide⟩
theorem ck_X8_clean_81 : CK M_X8_clean M_X8_isCovered 81 := ⟨Or.inl bk_1094, by decide, by decide⟩
theorem ck_X8_clean_85 : CK M_X8_clean M_X8_leave 85 := ⟨Or.inl bk_1106, by decide, by decide⟩
theorem ck_X8_clean_89 : CK M_X8_clean M_X8_cut 89 := ⟨Or.inl bk_1110, by decide, by decide⟩
theorem ck_X8_close_124 : CK M_X8_close M_X8_holds 124 := ⟨Or.inl bk_1028, by decide, by decide⟩
theorem ck_X8_close_161 : CK M_X8_close M_X8_isEye 161 := ⟨Or.inl bk_1130, by decide, by decide⟩
theorem ck_X8_close_176 : CK M_X8_close M_X8_closes 176 := ⟨Or.inl bk_1174, by decide, by decide⟩
theorem ck_X8_close_212 : CK M_X8_close M_X8_remember 212 := ⟨Or.inl bk_1234, by decide, by decide⟩
theorem ck_X8_command_134 : CK M_X8_command M_X8_sign 134 := ⟨Or.inl bk_1044, by decide, by decide⟩
theorem ck_X8_command_140 : CK M_X8_command M_X8_key 140 := ⟨Or.inl bk_1052, by decide, by decide⟩
theorem ck_X8_concerns_39 : CK M_X8_concerns M_X8_in 39 := ⟨Or.inl bk_1025, by decide, by decide⟩
theorem ck_X8_concerns_50 : CK M_X8_concerns M_X8_of 50 := ⟨Or.inl bk_1091, by decide, by decide⟩
theorem ck_X8_countSeen_72 : CK M_X8_countSeen M_X8_seen 72 := ⟨Or.inl bk_1146, by decide, by decide⟩
theorem ck_X8_count_100 : CK M_X8_count M_X8_countSeen 100 := ⟨Or.inl bk_1142, by decide, by decide⟩
theorem ck_X8_count_124 : CK M_X8_count M_X8_holds 124 := ⟨Or.inl bk_1028, by decide, by decide⟩
theorem ck_X8_count_200 : CK M_X8_count M_X8_isView 200 := ⟨Or.inl bk_1202, by decide, by decide⟩
theorem ck_X8_count_97 : CK M_X8_count M_X8_isKey 97 := ⟨Or.inl bk_1064, by decide, by decide⟩
theorem ck_X8_cut_50 : CK M_X8_cut M_X8_of 50 := ⟨Or.inl bk_1091, by decide, by decide⟩
theorem ck_X8_cut_81 : CK M_X8_cut M_X8_isCovered 81 := ⟨Or.inl bk_1094, by decide, by decide⟩
theorem ck_X8_cut_85 : CK M_X8_cut M_X8_leave 85 := ⟨Or.inl bk_1106, by decide, by decide⟩
theorem ck_X8_cut_93 : CK M_X8_cut M_X8_hasOlderEntry 93 := ⟨Or.inl bk_1114, by decide, by decide⟩
theorem ck_X8_doesWell_161 : CK M_X8_doesWell M_X8_isEye 161 := ⟨Or.inl bk_1130, by decide, by decide⟩
theorem ck_X8_doesWell_182 : CK M_X8_doesWell M_X8_does 182 := ⟨Or.inl bk_1056, by decide, by decide⟩
theorem ck_X8_doesWell_54 : CK M_X8_doesWell M_X8_all 54 := ⟨Or.inl bk_1067, by decide, by decide⟩
theorem ck_X8_doesWell_72 : CK M_X8_doesWell M_X8_seen 72 := ⟨Or.inl bk_1146, by decide, by decide⟩
theorem ck_X8_does_104 : CK M_X8_does M_X8_writes 104 := ⟨Or.inl bk_1134, by decide, by decide⟩
theorem ck_X8_does_149 : CK M_X8_does M_X8_putFault 149 := ⟨Or.inl bk_1060, by decide, by decide⟩
theorem ck_X8_does_152 : CK M_X8_does M_X8_buryFault 152 := ⟨Or.inl bk_1075, by decide, by decide⟩
theorem ck_X8_does_155 : CK M_X8_does M_X8_flushFault 155 := ⟨Or.inl bk_1079, by decide, by decide⟩
theorem ck_X8_does_158 : CK M_X8_does M_X8_mergeFault 158 := ⟨Or.inl bk_1122, by decide, by decide⟩
theorem ck_X8_does_161 : CK M_X8_does M_X8_isEye 161 := ⟨Or.inl bk_1130, by decide, by decide⟩
theorem ck_X8_does_164 : CK M_X8_does M_X8_buries 164 := ⟨Or.inl bk_1138, by decide, by decide⟩
theorem ck_X8_does_167 : CK M_X8_does M_X8_flushes 167 := ⟨Or.inl bk_1158, by decide, by decide⟩
theorem ck_X8_does_170 : CK M_X8_does M_X8_merges 170 := ⟨Or.inl bk_1166, by decide, by decide⟩
theorem ck_X8_does_173 : CK M_X8_does M_X8_opens 173 := ⟨Or.inl bk_1170, by decide, by decide⟩
theorem ck_X8_does_176 : CK M_X8_does M_X8_closes 176 := ⟨Or.inl bk_1174, by decide, by decide⟩
theorem ck_X8_errorPosition_186 : CK M_X8_errorPosition M_X8_go 186 := ⟨Or.inl bk_1040, by decide, by decide⟩
theorem ck_X8_eye_124 : CK M_X8_eye M_X8_holds 124 := ⟨Or.inl bk_1028, by decide, by decide⟩
theorem ck_X8_eye_161 : CK M_X8_eye M_X8_isEye 161 := ⟨Or.inl bk_1130, by decide, by decide⟩
theorem ck_X8_fewest_100 : CK M_X8_fewest M_X8_countSeen 100 := ⟨Or.inl bk_1142, by decide, by decide⟩
theorem ck_X8_fewest_54 : CK M_X8_fewest M_X8_all 54 := ⟨Or.inl bk_1067, by decide, by decide⟩
theorem ck_X8_flushFault_107 : CK M_X8_flushFault M_X8_clean 107 := ⟨Or.inl bk_1083, by decide, by decide⟩
theorem ck_X8_flushFault_111 : CK M_X8_flushFault M_X8_isRoomFor 111 := ⟨Or.inl bk_1118, by decide, by decide⟩
theorem ck_X8_flushFault_46 : CK M_X8_flushFault M_X8_begin 46 := ⟨Or.inl bk_1071, by decide, by decide⟩
theorem ck_X8_flushFault_54 : CK M_X8_flushFault M_X8_all 54 := ⟨Or.inl bk_1067, by decide, by decide⟩
theorem ck_X8_flush_124 : CK M_X8_flush M_X8_holds 124 := ⟨Or.inl bk_1028, by decide, by decide⟩
theorem ck_X8_flush_155 : CK M_X8_flush M_X8_flushFault 155 := ⟨Or.inl bk_1079, by decide, by decide⟩
theorem ck_X8_flush_167 : CK M_X8_flush M_X8_flushes 167 := ⟨Or.inl bk_1158, by decide, by decide⟩
theorem ck_X8_flush_212 : CK M_X8_flush M_X8_remember 212 := ⟨Or.inl bk_1234, by decide, by decide⟩
theorem ck_X8_flushes_114 : CK M_X8_flushes M_X8_replace 114 := ⟨Or.inl bk_1162, by decide, by decide⟩
theorem ck_X8_flushes_46 : CK M_X8_flushes M_X8_begin 46 := ⟨Or.inl bk_1071, by decide, by decide⟩
theorem ck_X8_flushes_54 : CK M_X8_flushes M_X8_all 54 := ⟨Or.inl bk_1067, by decide, by decide⟩
theorem ck_X8_get_124 : CK M_X8_get M_X8_holds 124 := ⟨Or.inl bk_1028, by decide, by decide⟩
theorem ck_X8_get_200 : CK M_X8_get M_X8_isView 200 := ⟨Or.inl bk_1202, by decide, by decide⟩
theorem ck_X8_get_72 : CK M_X8_get M_X8_seen 72 := ⟨Or.inl bk_1146, by decide, by decide⟩
theorem ck_X8_get_97 : CK M_X8_get M_X8_isKey 97 := ⟨Or.inl bk_1064, by decide, by decide⟩
theorem ck_X8_go_134 : CK M_X8_go M_X8_sign 134 := ⟨Or.inl bk_1044, by decide, by decide⟩
theorem ck_X8_go_179 : CK M_X8_go M_X8_command 179 := ⟨Or.inl bk_1048, by decide, by decide⟩
theorem ck_X8_go_182 : CK M_X8_go M_X8_does 182 := ⟨Or.inl bk_1056, by decide, by decide⟩
theorem ck_X8_grave_124 : CK M_X8_grave M_X8_holds 124 := ⟨Or.inl bk_1028, by decide, by decide⟩
theorem ck_X8_grave_224 : CK M_X8_grave M_X8_newestGrave 224 := ⟨Or.inl bk_1294, by decide, by decide⟩
theorem ck_X8_grave_97 : CK M_X8_grave M_X8_isKey 97 := ⟨Or.inl bk_1064, by decide, by decide⟩
theorem ck_X8_hasOlderEntry_50 : CK M_X8_hasOlderEntry M_X8_of 50 := ⟨Or.inl bk_1091, by decide, by decide⟩
theorem ck_X8_hasOlderEntry_58 : CK M_X8_hasOlderEntry M_X8_concerns 58 := ⟨Or.inl bk_1098, by decide, by decide⟩
theorem ck_X8_hasOlderEntry_68 : CK M_X8_hasOlderEntry M_X8_isEntry 68 := ⟨Or.inl bk_1087, by decide, by decide⟩
theorem ck_X8_hidden_50 : CK M_X8_hidden M_X8_of 50 := ⟨Or.inl bk_1091, by decide, by decide⟩
theorem ck_X8_hidden_54 : CK M_X8_hidden M_X8_all 54 := ⟨Or.inl bk_1067, by decide, by decide⟩
theorem ck_X8_hidden_62 : CK M_X8_hidden M_X8_upTo 62 := ⟨Or.inl bk_1150, by decide, by decide⟩
theorem ck_X8_hidden_65 : CK M_X8_hidden M_X8_newest 65 := ⟨Or.inl bk_1154, by decide, by decide⟩
theorem ck_X8_hidden_68 : CK M_X8_hidden M_X8_isEntry 68 := ⟨Or.inl bk_1087, by decide, by decide⟩
theorem ck_X8_isCovered_50 : CK M_X8_isCovered M_X8_of 50 := ⟨Or.inl bk_1091, by decide, by decide⟩
theorem ck_X8_isCovered_58 : CK M_X8_isCovered M_X8_concerns 58 := ⟨Or.inl bk_1098, by decide, by decide⟩
theorem ck_X8_isCovered_68 : CK M_X8_isCovered M_X8_isEntry 68 := ⟨Or.inl bk_1087, by decide, by decide⟩
theorem ck_X8_isCovered_75 : CK M_X8_isCovered M_X8_areParted 75 := ⟨Or.inl bk_1102, by decide, by decide⟩
theorem ck_X8_isEntry_50 : CK M_X8_isEntry M_X8_of 50 := ⟨Or.inl bk_1091, by decide, by decide⟩
theorem ck_X8_isEye_39 : CK M_X8_isEye M_X8_in 39 := ⟨Or.inl bk_1025, by decide, by decide⟩
theorem ck_X8_isIn_203 : CK M_X8_isIn M_X8_manyIn 203 := ⟨Or.inl bk_1214, by decide, by decide⟩
theorem ck_X8_isIn_46 : CK M_X8_isIn M_X8_begin 46 := ⟨Or.inl bk_1071, by decide, by decide⟩
theorem ck_X8_isIn_58 : CK M_X8_isIn M_X8_concerns 58 := ⟨Or.inl bk_1098, by decide, by decide⟩
theorem ck_X8_isKey_39 : CK M_X8_isKey M_X8_in 39 := ⟨Or.inl bk_1025, by decide, by decide⟩
theorem ck_X8_isRoomFor_54 : CK M_X8_isRoomFor M_X8_all 54 := ⟨Or.inl bk_1067, by decide, by decide⟩
theorem ck_X8_isRun_39 : CK M_X8_isRun M_X8_in 39 := ⟨Or.inl bk_1025, by decide, by decide⟩
theorem ck_X8_isView_161 : CK M_X8_isView M_X8_isEye 161 := ⟨Or.inl bk_1130, by decide, by decide⟩
theorem ck_X8_key_134 : CK M_X8_key M_X8_sign 134 := ⟨Or.inl bk_1044, by decide, by decide⟩
theorem ck_X8_keysOf_58 : CK M_X8_keysOf M_X8_concerns 58 := ⟨Or.inl bk_1098, by decide, by decide⟩
theorem ck_X8_kinds_68 : CK M_X8_kinds M_X8_isEntry 68 := ⟨Or.inl bk_1087, by decide, by decide⟩
theorem ck_X8_leave_50 : CK M_X8_leave M_X8_of 50 := ⟨Or.inl bk_1091, by decide, by decide⟩
theorem ck_X8_load_124 : CK M_X8_load M_X8_holds 124 := ⟨Or.inl bk_1028, by decide, by decide⟩
theorem ck_X8_load_186 : CK M_X8_load M_X8_go 186 := ⟨Or.inl bk_1040, by decide, by decide⟩
theorem ck_X8_lookedAt_203 : CK M_X8_lookedAt M_X8_manyIn 203 := ⟨Or.inl bk_1214, by decide, by decide⟩
theorem ck_X8_lookedAt_215 : CK M_X8_lookedAt M_X8_isIn 215 := ⟨Or.inl bk_1270, by decide, by decide⟩
theorem ck_X8_looks_124 : CK M_X8_looks M_X8_holds 124 := ⟨Or.inl bk_1028, by decide, by decide⟩
theorem ck_X8_looks_218 : CK M_X8_looks M_X8_lookedAt 218 := ⟨Or.inl bk_1266, by decide, by decide⟩
theorem ck_X8_looks_97 : CK M_X8_looks M_X8_isKey 97 := ⟨Or.inl bk_1064, by decide, by decide⟩
theorem ck_X8_mergeFault_107 : CK M_X8_mergeFault M_X8_clean 107 := ⟨Or.inl bk_1083, by decide, by decide⟩
theorem ck_X8_mergeFault_111 : CK M_X8_mergeFault M_X8_isRoomFor 111 := ⟨Or.inl bk_1118, by decide, by decide⟩
theorem ck_X8_mergeFault_118 : CK M_X8_mergeFault M_X8_isRun 118 := ⟨Or.inl bk_1126, by decide, by decide⟩
theorem ck_X8_mergeFault_46 : CK M_X8_mergeFault M_X8_begin 46 := ⟨Or.inl bk_1071, by decide, by decide⟩
theorem ck_X8_merge_124 : CK M_X8_merge M_X8_holds 124 := ⟨Or.inl bk_1028, by decide, by decide⟩
theorem ck_X8_merge_158 : CK M_X8_merge M_X8_mergeFault 158 := ⟨Or.inl bk_1122, by decide, by decide⟩
theorem ck_X8_merge_170 : CK M_X8_merge M_X8_merges 170 := ⟨Or.inl bk_1166, by decide, by decide⟩
theorem ck_X8_merge_212 : CK M_X8_merge M_X8_remember 212 := ⟨Or.inl bk_1234, by decide, by decide⟩
theorem ck_X8_merges_114 : CK M_X8_merges M_X8_replace 114 := ⟨Or.inl bk_1162, by decide, by decide⟩
theorem ck_X8_merges_46 : CK M_X8_merges M_X8_begin 46 := ⟨Or.inl bk_1071, by decide, by decide⟩
theorem ck_X8_newestGrave_50 : CK M_X8_newestGrave M_X8_of 50 := ⟨Or.inl bk_1091, by decide, by decide⟩
theorem ck_X8_newestGrave_54 : CK M_X8_newestGrave M_X8_all 54 := ⟨Or.inl bk_1067, by decide, by decide⟩
theorem ck_X8_newestGrave_58 : CK M_X8_newestGrave M_X8_concerns 58 := ⟨Or.inl bk_1098, by decide, by decide⟩
theorem ck_X8_newestGrave_68 : CK M_X8_newestGrave M_X8_isEntry 68 := ⟨Or.inl bk_1087, by decide, by decide⟩
theorem ck_X8_newest_50 : CK M_X8_newest M_X8_of 50 := ⟨Or.inl bk_1091, by decide, by decide⟩
theorem ck_X8_newest_54 : CK M_X8_newest M_X8_all 54 := ⟨Or.inl bk_1067, by decide, by decide⟩
theorem ck_X8_newest_58 : CK M_X8_newest M_X8_concerns 58 := ⟨Or.inl bk_1098, by decide, by decide⟩
theorem ck_X8_nextSeen_72 : CK M_X8_nextSeen M_X8_seen 72 := ⟨Or.inl bk_1146, by decide, by decide⟩
theorem ck_X8_next_124 : CK M_X8_next M_X8_holds 124 := ⟨Or.inl bk_1028, by decide, by decide⟩
theorem ck_X8_next_200 : CK M_X8_next M_X8_isView 200 := ⟨Or.inl bk_1202, by decide, by decide⟩
theorem ck_X8_next_221 : CK M_X8_next M_X8_nextSeen 221 := ⟨Or.inl bk_1278, by decide, by decide⟩
theorem ck_X8_next_97 : CK M_X8_next M_X8_isKey 97 := ⟨Or.inl bk_1064, by decide, by decide⟩
theorem ck_X8_ofRun_190 : CK M_X8_ofRun M_X8_kinds 190 := ⟨Or.inl bk_1190, by decide, by decide⟩
theorem ck_X8_ofRun_203 : CK M_X8_ofRun M_X8_manyIn 203 := ⟨Or.inl bk_1214, by decide, by decide⟩
theorem ck_X8_ofRun_206 : CK M_X8_ofRun M_X8_keysOf 206 := ⟨Or.inl bk_1218, by decide, by decide⟩
theorem ck_X8_ofRun_46 : CK M_X8_ofRun M_X8_begin 46 := ⟨Or.inl bk_1071, by decide, by decide⟩
theorem ck_X8_ofRun_50 : CK M_X8_ofRun M_X8_of 50 := ⟨Or.inl bk_1091, by decide, by decide⟩
theorem ck_X8_open_124 : CK M_X8_open M_X8_holds 124 := ⟨Or.inl bk_1028, by decide, by decide⟩
theorem ck_X8_open_173 : CK M_X8_open M_X8_opens 173 := ⟨Or.inl bk_1170, by decide, by decide⟩
theorem ck_X8_open_212 : CK M_X8_open M_X8_remember 212 := ⟨Or.inl bk_1234, by decide, by decide⟩
theorem ck_X8_putFault_39 : CK M_X8_putFault M_X8_in 39 := ⟨Or.inl bk_1025, by decide, by decide⟩
theorem ck_X8_putFault_54 : CK M_X8_putFault M_X8_all 54 := ⟨Or.inl bk_1067, by decide, by decide⟩
theorem ck_X8_putFault_97 : CK M_X8_putFault M_X8_isKey 97 := ⟨Or.inl bk_1064, by decide, by decide⟩
theorem ck_X8_put_104 : CK M_X8_put M_X8_writes 104 := ⟨Or.inl bk_1134, by decide, by decide⟩
theorem ck_X8_put_124 : CK M_X8_put M_X8_holds 124 := ⟨Or.inl bk_1028, by decide, by decide⟩
theorem ck_X8_put_149 : CK M_X8_put M_X8_putFault 149 := ⟨Or.inl bk_1060, by decide, by decide⟩
theorem ck_X8_put_212 : CK M_X8_put M_X8_remember 212 := ⟨Or.inl bk_1234, by decide, by decide⟩
theorem ck_X8_ran_234 : CK M_X8_ran M_X8_putAside 234 := ⟨Or.inl bk_1327, by decide, by decide⟩
theorem ck_X8_ran_237 : CK M_X8_ran M_X8_doesWell 237 := ⟨Or.inl bk_1331, by decide, by decide⟩
theorem ck_X8_ran_240 : CK M_X8_ran M_X8_putBack 240 := ⟨Or.inl bk_1335, by decide, by decide⟩
theorem ck_X8_replace_50 : CK M_X8_replace M_X8_of 50 := ⟨Or.inl bk_1091, by decide, by decide⟩
theorem ck_X8_replace_54 : CK M_X8_replace M_X8_all 54 := ⟨Or.inl bk_1067, by decide, by decide⟩
theorem ck_X8_restore_124 : CK M_X8_restore M_X8_holds 124 := ⟨Or.inl bk_1028, by decide, by decide⟩
theorem ck_X8_restore_39 : CK M_X8_restore M_X8_in 39 := ⟨Or.inl bk_1025, by decide, by decide⟩
theorem ck_X8_restore_54 : CK M_X8_restore M_X8_all 54 := ⟨Or.inl bk_1067, by decide, by decide⟩
theorem ck_X8_runScript_124 : CK M_X8_runScript M_X8_holds 124 := ⟨Or.inl bk_1028, by decide, by decide⟩
theorem ck_X8_runScript_249 : CK M_X8_runScript M_X8_ran 249 := ⟨Or.inl bk_1321, by decide, by decide⟩
theorem ck_X8_runScript_39 : CK M_X8_runScript M_X8_in 39 := ⟨Or.inl bk_1025, by decide, by decide⟩
theorem ck_X8_run_118 : CK M_X8_run M_X8_isRun 118 := ⟨Or.inl bk_1126, by decide, by decide⟩
theorem ck_X8_run_124 : CK M_X8_run M_X8_holds 124 := ⟨Or.inl bk_1028, by decide, by decide⟩
theorem ck_X8_run_209 : CK M_X8_run M_X8_ofRun 209 := ⟨Or.inl bk_1210, by decide, by decide⟩
theorem ck_X8_run_39 : CK M_X8_run M_X8_in 39 := ⟨Or.inl bk_1025, by decide, by decide⟩
theorem ck_X8_save_124 : CK M_X8_save M_X8_holds 124 := ⟨Or.inl bk_1028, by decide, by decide⟩
theorem ck_X8_save_39 : CK M_X8_save M_X8_in 39 := ⟨Or.inl bk_1025, by decide, by decide⟩
theorem ck_X8_save_54 : CK M_X8_save M_X8_all 54 := ⟨Or.inl bk_1067, by decide, by decide⟩
theorem ck_X8_saves_124 : CK M_X8_saves M_X8_holds 124 := ⟨Or.inl bk_1028, by decide, by decide⟩
theorem ck_X8_saves_158 : CK M_X8_saves M_X8_mergeFault 158 := ⟨Or.inl bk_1122, by decide, by decide⟩
theorem ck_X8_saves_227 : CK M_X8_saves M_X8_savedBy 227 := ⟨Or.inl bk_1302, by decide, by decide⟩
theorem ck_X8_seen_50 : CK M_X8_seen M_X8_of 50 := ⟨Or.inl bk_1091, by decide, by decide⟩
theorem ck_X8_seen_62 : CK M_X8_seen M_X8_upTo 62 := ⟨Or.inl bk_1150, by decide, by decide⟩
theorem ck_X8_seen_65 : CK M_X8_seen M_X8_newest 65 := ⟨Or.inl bk_1154, by decide, by decide⟩
theorem ck_X8_seen_68 : CK M_X8_seen M_X8_isEntry 68 := ⟨Or.inl bk_1087, by decide, by decide⟩
theorem ck_X8_sign_39 : CK M_X8_sign M_X8_in 39 := ⟨Or.inl bk_1025, by decide, by decide⟩
theorem ck_X8_simulate_124 : CK M_X8_simulate M_X8_holds 124 := ⟨Or.inl bk_1028, by decide, by decide⟩
theorem ck_X8_simulate_261 : CK M_X8_simulate M_X8_simulated 261 := ⟨Or.inl bk_1343, by decide, by decide⟩
theorem ck_X8_simulate_39 : CK M_X8_simulate M_X8_in 39 := ⟨Or.inl bk_1025, by decide, by decide⟩
theorem ck_X8_simulated_100 : CK M_X8_simulated M_X8_countSeen 100 := ⟨Or.inl bk_1142, by decide, by decide⟩
theorem ck_X8_simulated_234 : CK M_X8_simulated M_X8_putAside 234 := ⟨Or.inl bk_1327, by decide, by decide⟩
theorem ck_X8_simulated_240 : CK M_X8_simulated M_X8_putBack 240 := ⟨Or.inl bk_1335, by decide, by decide⟩
theorem ck_X8_simulated_257 : CK M_X8_simulated M_X8_turn 257 := ⟨Or.inl bk_1349, by decide, by decide⟩
theorem ck_X8_simulated_54 : CK M_X8_simulated M_X8_all 54 := ⟨Or.inl bk_1067, by decide, by decide⟩
theorem ck_X8_sumSeen_72 : CK M_X8_sumSeen M_X8_seen 72 := ⟨Or.inl bk_1146, by decide, by decide⟩
theorem ck_X8_told_100 : CK M_X8_told M_X8_countSeen 100 := ⟨Or.inl bk_1142, by decide, by decide⟩
theorem ck_X8_told_190 : CK M_X8_told M_X8_kinds 190 := ⟨Or.inl bk_1190, by decide, by decide⟩
theorem ck_X8_told_194 : CK M_X8_told M_X8_sumSeen 194 := ⟨Or.inl bk_1194, by decide, by decide⟩
theorem ck_X8_told_54 : CK M_X8_told M_X8_all 54 := ⟨Or.inl bk_1067, by decide, by decide⟩
theorem ck_X8_turn_182 : CK M_X8_turn M_X8_does 182 := ⟨Or.inl bk_1056, by decide, by decide⟩
theorem ck_X8_undo_124 : CK M_X8_undo M_X8_holds 124 := ⟨Or.inl bk_1028, by decide, by decide⟩
theorem ck_X8_write_118 : CK M_X8_write M_X8_isRun 118 := ⟨Or.inl bk_1126, by decide, by decide⟩
theorem ck_X8_write_124 : CK M_X8_write M_X8_holds 124 := ⟨Or.inl bk_1028, by decide, by decide⟩
theorem ck_X8_write_203 : CK M_X8_write M_X8_manyIn 203 := ⟨Or.inl bk_1214, by decide, by decide⟩
theorem ck_X8_write_39 : CK M_X8_write M_X8_in 39 := ⟨Or.inl bk_1025, by decide, by decide⟩
theorem ck_X8_write_46 : CK M_X8_write M_X8_begin 46 := ⟨Or.inl bk_1071, by decide, by decide⟩
theorem ck_X8_write_50 : CK M_X8_write M_X8_of 50 := ⟨Or.inl bk_1091, by decide, by decide⟩
theorem ck_X8_writes_50 : CK M_X8_writes M_X8_of 50 := ⟨Or.inl bk_1091, by decide, by decide⟩
theorem ck_X8_writes_54 : CK M_X8_writes M_X8_all 54 := ⟨Or.inl bk_1067, by decide, by decide⟩
theorem tr_RX7_140_142_144 : THR RX7 140 142 144 "java/lang/IndexOutOfBoundsException" "no such key or eye" := ⟨bk_716, bk_80, tk_725, by decide +kernel, thg_140_144, thw_140_144, thv_140_144⟩
theorem tr_RX7_140_154_144 : THR RX7 140 154 144 "java/lang/IndexOutOfBoundsException" "no such run" := ⟨bk_716, bk_80, tk_749, by decide +kernel, thg_140_144, thw_140_144, thv_140_144⟩
theorem tr_RX7_140_190_144 : THR RX7 140 190 144 "java/lang/IndexOutOfBoundsException" "no such eye" := ⟨bk_716, bk_80, tk_791, by decide +kernel, thg_140_144, thw_140_144, thv_140_144⟩
theorem tr_RX7_140_192_144 : THR RX7 140 192 144 "java/lang/IndexOutOfBoundsException" "no such key" := ⟨bk_716, bk_80, tk_799, by decide +kernel, thg_140_144, thw_140_144, thv_140_144⟩
theorem tr_RX7_140_298_144 : THR RX7 140 298 144 "java/lang/IndexOutOfBoundsException" "no such save slot" := ⟨bk_716, bk_80, tk_950, by decide +kernel, thg_140_144, thw_140_144, thv_140_144⟩
theorem tr_RX7_55_132_59 : THR RX7 55 132 59 "java/lang/IllegalArgumentException" "what is 0 to 8" := ⟨bk_479, bk_76, tk_702, by decide +kernel, thg_55_59, thw_55_59, thv_55_59⟩
theorem tr_RX7_55_174_59 : THR RX7 55 174 59 "java/lang/IllegalArgumentException" "what is 0 to 4" := ⟨bk_479, bk_76, tk_771, by decide +kernel, thg_55_59, thw_55_59, thv_55_59⟩
theorem tr_RX7_55_176_59 : THR RX7 55 176 59 "java/lang/IllegalArgumentException" "j is not negative, and what is 0 to 3" := ⟨bk_479, bk_76, tk_779, by decide +kernel, thg_55_59, thw_55_59, thv_55_59⟩
theorem tr_RX7_55_197_59 : THR RX7 55 197 59 "java/lang/IllegalArgumentException" "a value is 1 to 999" := ⟨bk_479, bk_76, tk_801, by decide +kernel, thg_55_59, thw_55_59, thv_55_59⟩
theorem tr_RX7_55_210_59 : THR RX7 55 210 59 "java/lang/IllegalArgumentException" "the last key is less than the first one" := ⟨bk_479, bk_76, tk_817, by decide +kernel, thg_55_59, thw_55_59, thv_55_59⟩
theorem tr_RX7_55_276_59 : THR RX7 55 276 59 "java/lang/IllegalArgumentException" "a script has 1 to 3 commands" := ⟨bk_479, bk_76, tk_918, by decide +kernel, thg_55_59, thw_55_59, thv_55_59⟩
theorem tr_RX7_55_282_59 : THR RX7 55 282 59 "java/lang/IllegalArgumentException" "a script is a number of at most 5 * n digits" := ⟨bk_479, bk_76, tk_923, by decide +kernel, thg_55_59, thw_55_59, thv_55_59⟩
theorem tr_RX7_55_289_59 : THR RX7 55 289 59 "java/lang/IllegalArgumentException" "there are 1 to 60 turns" := ⟨bk_479, bk_76, tk_935, by decide +kernel, thg_55_59, thw_55_59, thv_55_59⟩
theorem tr_RX7_55_57_59 : THR RX7 55 57 59 "java/lang/IllegalArgumentException" "a character code is 0 to 255" := ⟨bk_479, bk_76, tk_520, by decide +kernel, thg_55_59, thw_55_59, thv_55_59⟩
theorem tr_RX7_66_200_70 : THR RX7 66 200 70 "java/lang/IllegalStateException" "there are 48 writes" := ⟨bk_551, bk_77, tk_803, by decide +kernel, thg_66_70, thw_66_70, thv_66_70⟩
theorem tr_RX7_66_218_70 : THR RX7 66 218 70 "java/lang/IllegalStateException" "2 eyes are open" := ⟨bk_551, bk_77, tk_826, by decide +kernel, thg_66_70, thw_66_70, thv_66_70⟩
theorem tr_RX7_66_229_70 : THR RX7 66 229 70 "java/lang/IllegalStateException" "memory is empty, there are 5 runs, or it is too much" := ⟨bk_551, bk_77, tk_844, by decide +kernel, thg_66_70, thw_66_70, thv_66_70⟩
theorem tr_RX7_66_240_70 : THR RX7 66 240 70 "java/lang/IllegalStateException" "there is no run behind it, or it is too much" := ⟨bk_551, bk_77, tk_853, by decide +kernel, thg_66_70, thw_66_70, thv_66_70⟩
theorem tr_RX7_66_246_70 : THR RX7 66 246 70 "java/lang/IllegalStateException" "no state is remembered" := ⟨bk_551, bk_77, tk_865, by decide +kernel, thg_66_70, thw_66_70, thv_66_70⟩
theorem tr_RX7_66_300_70 : THR RX7 66 300 70 "java/lang/IllegalStateException" "nothing has been saved in this slot" := ⟨bk_551, bk_77, tk_958, by decide +kernel, thg_66_70, thw_66_70, thv_66_70⟩
theorem tr_RX7_66_68_70 : THR RX7 66 68 70 "java/lang/IllegalStateException" "the text already has 120 characters" := ⟨bk_551, bk_77, tk_560, by decide +kernel, thg_66_70, thw_66_70, thv_66_70⟩
theorem tr_RX7_66_85_70 : THR RX7 66 85 70 "java/lang/IllegalStateException" "the text is not a history" := ⟨bk_551, bk_77, tk_578, by decide +kernel, thg_66_70, thw_66_70, thv_66_70⟩
theorem hd_L_about_IllegalArgumentException : HD RL [(0, 9, 12, 13)] 4 "java/lang/IllegalArgumentException" 12 := ⟨[], (0, 9, 12, 13), [], "java/lang/IllegalArgumentException", rfl, fun _ h => absurd h List.not_mem_nil, by decide, by decide, bk_473, tk_481, rfl⟩
theorem hd_L_append_IllegalArgumentException : HD RL [(0, 9, 12, 13), (0, 9, 15, 15)] 4 "java/lang/IllegalArgumentException" 12 := ⟨[], (0, 9, 12, 13), [(0, 9, 15, 15)], "java/lang/IllegalArgumentException", rfl, fun _ h => absurd h List.not_mem_nil, by decide, by decide, bk_473, tk_481, rfl⟩
theorem hd_L_append_IllegalStateException : HD RL [(0, 9, 12, 13), (0, 9, 15, 15)] 4 "java/lang/IllegalStateException" 15 := ⟨[(0, 9, 12, 13)], (0, 9, 15, 15), [], "java/lang/IllegalStateException", rfl, List.forall_mem_cons.mpr ⟨⟨by decide, "java/lang/IllegalArgumentException", bk_473, by decide +kernel⟩, fun _ h => absurd h List.not_mem_nil⟩, by decide, by decide, bk_474, tk_553, rfl⟩
theorem hd_L_bury_IllegalArgumentException : HD RL [(0, 10, 13, 28), (0, 10, 17, 13), (0, 10, 21, 15)] 5 "java/lang/IllegalArgumentException" 17 := ⟨[(0, 10, 13, 28)], (0, 10, 17, 13), [(0, 10, 21, 15)], "java/lang/IllegalArgumentException", rfl, List.forall_mem_cons.mpr ⟨⟨by decide, "java/lang/IndexOutOfBoundsException", bk_706, by decide +kernel⟩, fun _ h => absurd h List.not_mem_nil⟩, by decide, by decide, bk_473, tk_481, rfl⟩
theorem hd_L_bury_IllegalStateException : HD RL [(0, 10, 13, 28), (0, 10, 17, 13), (0, 10, 21, 15)] 5 "java/lang/IllegalStateException" 21 := ⟨[(0, 10, 13, 28), (0, 10, 17, 13)], (0, 10, 21, 15), [], "java/lang/IllegalStateException", rfl, List.forall_mem_cons.mpr ⟨⟨by decide, "java/lang/IndexOutOfBoundsException", bk_706, by decide +kernel⟩, List.forall_mem_cons.mpr ⟨⟨by decide, "java/lang/IllegalArgumentException", bk_473, by decide +kernel⟩, fun _ h => absurd h List.not_mem_nil⟩⟩, by decide, by decide, bk_474, tk_553, rfl⟩
theorem hd_L_bury_IndexOutOfBoundsException : HD RL [(0, 10, 13, 28), (0, 10, 17, 13), (0, 10, 21, 15)] 5 "java/lang/IndexOutOfBoundsException" 13 := ⟨[], (0, 10, 13, 28), [(0, 10, 17, 13), (0, 10, 21, 15)], "java/lang/IndexOutOfBoundsException", rfl, fun _ h => absurd h List.not_mem_nil, by decide, by decide, bk_706, tk_718, rfl⟩
theorem hd_L_close_IndexOutOfBoundsException : HD RL [(0, 9, 12, 28)] 4 "java/lang/IndexOutOfBoundsException" 12 := ⟨[], (0, 9, 12, 28), [], "java/lang/IndexOutOfBoundsException", rfl, fun _ h => absurd h List.not_mem_nil, by decide, by decide, bk_706, tk_718, rfl⟩
theorem hd_L_count_IllegalArgumentException : HD RL [(0, 12, 15, 28), (0, 12, 19, 13)] 7 "java/lang/IllegalArgumentException" 19 := ⟨[(0, 12, 15, 28)], (0, 12, 19, 13), [], "java/lang/IllegalArgumentException", rfl, List.forall_mem_cons.mpr ⟨⟨by decide, "java/lang/IndexOutOfBoundsException", bk_706, by decide +kernel⟩, fun _ h => absurd h List.not_mem_nil⟩, by decide, by decide, bk_473, tk_481, rfl⟩
theorem hd_L_count_IndexOutOfBoundsException : HD RL [(0, 12, 15, 28), (0, 12, 19, 13)] 7 "java/lang/IndexOutOfBoundsException" 15 := ⟨[], (0, 12, 15, 28), [(0, 12, 19, 13)], "java/lang/IndexOutOfBoundsException", rfl, fun _ h => absurd h List.not_mem_nil, by decide, by decide, bk_706, tk_718, rfl⟩
theorem hd_L_eye_IndexOutOfBoundsException : HD RL [(0, 9, 12, 28)] 4 "java/lang/IndexOutOfBoundsException" 12 := ⟨[], (0, 9, 12, 28), [], "java/lang/IndexOutOfBoundsException", rfl, fun _ h => absurd h List.not_mem_nil, by decide, by decide, bk_706, tk_718, rfl⟩
theorem hd_L_flush_IllegalStateException : HD RL [(0, 8, 11, 15)] 3 "java/lang/IllegalStateException" 11 := ⟨[], (0, 8, 11, 15), [], "java/lang/IllegalStateException", rfl, fun _ h => absurd h List.not_mem_nil, by decide, by decide, bk_474, tk_553, rfl⟩
theorem hd_L_get_IndexOutOfBoundsException : HD RL [(0, 10, 13, 28)] 5 "java/lang/IndexOutOfBoundsException" 13 := ⟨[], (0, 10, 13, 28), [], "java/lang/IndexOutOfBoundsException", rfl, fun _ h => absurd h List.not_mem_nil, by decide, by decide, bk_706, tk_718, rfl⟩
theorem hd_L_grave_IndexOutOfBoundsException : HD RL [(0, 9, 12, 28)] 4 "java/lang/IndexOutOfBoundsException" 12 := ⟨[], (0, 9, 12, 28), [], "java/lang/IndexOutOfBoundsException", rfl, fun _ h => absurd h List.not_mem_nil, by decide, by decide, bk_706, tk_718, rfl⟩
theorem hd_L_load_IllegalStateException : HD RL [(0, 8, 11, 15)] 3 "java/lang/IllegalStateException" 11 := ⟨[], (0, 8, 11, 15), [], "java/lang/IllegalStateException", rfl, fun _ h => absurd h List.not_mem_nil, by decide, by decide, bk_474, tk_553, rfl⟩
theorem hd_L_looks_IndexOutOfBoundsException : HD RL [(0, 9, 12, 28)] 4 "java/lang/IndexOutOfBoundsException" 12 := ⟨[], (0, 9, 12, 28), [], "java/lang/IndexOutOfBoundsException", rfl, fun _ h => absurd h List.not_mem_nil, by decide, by decide, bk_706, tk_718, rfl⟩
theorem hd_L_merge_IllegalStateException : HD RL [(0, 9, 12, 28), (0, 9, 15, 15)] 4 "java/lang/IllegalStateException" 15 := ⟨[(0, 9, 12, 28)], (0, 9, 15, 15), [], "java/lang/IllegalStateException", rfl, List.forall_mem_cons.mpr ⟨⟨by decide, "java/lang/IndexOutOfBoundsException", bk_706, by decide +kernel⟩, fun _ h => absurd h List.not_mem_nil⟩, by decide, by decide, bk_474, tk_553, rfl⟩
theorem hd_L_merge_IndexOutOfBoundsException : HD RL [(0, 9, 12, 28), (0, 9, 15, 15)] 4 "java/lang/IndexOutOfBoundsException" 12 := ⟨[], (0, 9, 12, 28), [(0, 9, 15, 15)], "java/lang/IndexOutOfBoundsException", rfl, fun _ h => absurd h List.not_mem_nil, by decide, by decide, bk_706, tk_718, rfl⟩
theorem hd_L_next_IndexOutOfBoundsException : HD RL [(0, 10, 13, 28)] 5 "java/lang/IndexOutOfBoundsException" 13 := ⟨[], (0, 10, 13, 28), [], "java/lang/IndexOutOfBoundsException", rfl, fun _ h => absurd h List.not_mem_nil, by decide, by decide, bk_706, tk_718, rfl⟩
theorem hd_L_open_IllegalStateException : HD RL [(0, 8, 11, 15)] 3 "java/lang/IllegalStateException" 11 := ⟨[], (0, 8, 11, 15), [], "java/lang/IllegalStateException", rfl, fun _ h => absurd h List.not_mem_nil, by decide, by decide, bk_474, tk_553, rfl⟩
theorem hd_L_put_IllegalArgumentException : HD RL [(0, 10, 13, 28), (0, 10, 17, 13), (0, 10, 21, 15)] 5 "java/lang/IllegalArgumentException" 17 := ⟨[(0, 10, 13, 28)], (0, 10, 17, 13), [(0, 10, 21, 15)], "java/lang/IllegalArgumentException", rfl, List.forall_mem_cons.mpr ⟨⟨by decide, "java/lang/IndexOutOfBoundsException", bk_706, by decide +kernel⟩, fun _ h => absurd h List.not_mem_nil⟩, by decide, by decide, bk_473, tk_481, rfl⟩
theorem hd_L_put_IllegalStateException : HD RL [(0, 10, 13, 28), (0, 10, 17, 13), (0, 10, 21, 15)] 5 "java/lang/IllegalStateException" 21 := ⟨[(0, 10, 13, 28), (0, 10, 17, 13)], (0, 10, 21, 15), [], "java/lang/IllegalStateException", rfl, List.forall_mem_cons.mpr ⟨⟨by decide, "java/lang/IndexOutOfBoundsException", bk_706, by decide +kernel⟩, List.forall_mem_cons.mpr ⟨⟨by decide, "java/lang/IllegalArgumentException", bk_473, by decide +kernel⟩, fun _ h => absurd h List.not_mem_nil⟩⟩, by decide, by decide, bk_474, tk_553, rfl⟩
theorem hd_L_put_IndexOutOfBoundsException : HD RL [(0, 10, 13, 28), (0, 10, 17, 13), (0, 10, 21, 15)] 5 "java/lang/IndexOutOfBoundsException" 13 := ⟨[], (0, 10, 13, 28), [(0, 10, 17, 13), (0, 10, 21, 15)], "java/lang/IndexOutOfBoundsException", rfl, fun _ h => absurd h List.not_mem_nil, by decide, by decide, bk_706, tk_718, rfl⟩
theorem hd_L_restore_IllegalStateException : HD RL [(0, 9, 12, 28), (0, 9, 15, 15)] 4 "java/lang/IllegalStateException" 15 := ⟨[(0, 9, 12, 28)], (0, 9, 15, 15), [], "java/lang/IllegalStateException", rfl, List.forall_mem_cons.mpr ⟨⟨by decide, "java/lang/IndexOutOfBoundsException", bk_706, by decide +kernel⟩, fun _ h => absurd h List.not_mem_nil⟩, by decide, by decide, bk_474, tk_553, rfl⟩
theorem hd_L_restore_IndexOutOfBoundsException : HD RL [(0, 9, 12, 28), (0, 9, 15, 15)] 4 "java/lang/IndexOutOfBoundsException" 12 := ⟨[], (0, 9, 12, 28), [(0, 9, 15, 15)], "java/lang/IndexOutOfBoundsException", rfl, fun _ h => absurd h List.not_mem_nil, by decide, by decide, bk_706, tk_718, rfl⟩
theorem hd_L_runScript_IllegalArgumentException : HD RL [(0, 11, 14, 13)] 6 "java/lang/IllegalArgumentException" 14 := ⟨[], (0, 11, 14, 13), [], "java/lang/IllegalArgumentException", rfl, fun _ h => absurd h List.not_mem_nil, by decide, by decide, bk_473, tk_481, rfl⟩
theorem hd_L_run_IllegalArgumentException : HD RL [(0, 10, 13, 28), (0, 10, 17, 13)] 5 "java/lang/IllegalArgumentException" 17 := ⟨[(0, 10, 13, 28)], (0, 10, 17, 13), [], "java/lang/IllegalArgumentException", rfl, List.forall_mem_cons.mpr ⟨⟨by decide, "java/lang/IndexOutOfBoundsException", bk_706, by decide +kernel⟩, fun _ h => absurd h List.not_mem_nil⟩, by decide, by decide, bk_473, tk_481, rfl⟩
theorem hd_L_run_IndexOutOfBoundsException : HD RL [(0, 10, 13, 28), (0, 10, 17, 13)] 5 "java/lang/IndexOutOfBoundsException" 13 := ⟨[], (0, 10, 13, 28), [(0, 10, 17, 13)], "java/lang/IndexOutOfBoundsException", rfl, fun _ h => absurd h List.not_mem_nil, by decide, by decide, bk_706, tk_718, rfl⟩
theorem hd_L_save_IndexOutOfBoundsException : HD RL [(0, 9, 12, 28)] 4 "java/lang/IndexOutOfBoundsException" 12 := ⟨[], (0, 9, 12, 28), [], "java/lang/IndexOutOfBoundsException", rfl, fun _ h => absurd h List.not_mem_nil, by decide, by decide, bk_706, tk_718, rfl⟩
theorem hd_L_saves_IllegalStateException : HD RL [(0, 9, 12, 28), (0, 9, 15, 15)] 4 "java/lang/IllegalStateException" 15 := ⟨[(0, 9, 12, 28)], (0, 9, 15, 15), [], "java/lang/IllegalStateException", rfl, List.forall_mem_cons.mpr ⟨⟨by decide, "java/lang/IndexOutOfBoundsException", bk_706, by decide +kernel⟩, fun _ h => absurd h List.not_mem_nil⟩, by decide, by decide, bk_474, tk_553, rfl⟩
theorem hd_L_saves_IndexOutOfBoundsException : HD RL [(0, 9, 12, 28), (0, 9, 15, 15)] 4 "java/lang/IndexOutOfBoundsException" 12 := ⟨[], (0, 9, 12, 28), [(0, 9, 15, 15)], "java/lang/IndexOutOfBoundsException", rfl, fun _ h => absurd h List.not_mem_nil, by decide, by decide, bk_706, tk_718, rfl⟩
theorem hd_L_simulate_IllegalArgumentException : HD RL [(0, 11, 14, 13)] 6 "java/lang/IllegalArgumentException" 14 := ⟨[], (0, 11, 14, 13), [], "java/lang/IllegalArgumentException", rfl, fun _ h => absurd h List.not_mem_nil, by decide, by decide, bk_473, tk_481, rfl⟩
theorem hd_L_undo_IllegalStateException : HD RL [(0, 8, 11, 15)] 3 "java/lang/IllegalStateException" 11 := ⟨[], (0, 8, 11, 15), [], "java/lang/IllegalStateException", rfl, fun _ h => absurd h List.not_mem_nil, by decide, by decide, bk_474, tk_553, rfl⟩
theorem hd_L_write_IllegalArgumentException : HD RL [(0, 12, 15, 28), (0, 12, 19, 13)] 7 "java/lang/IllegalArgumentException" 19 := ⟨[(0, 12, 15, 28)], (0, 12, 19, 13), [], "java/lang/IllegalArgumentException", rfl, List.forall_mem_cons.mpr ⟨⟨by decide, "java/lang/IndexOutOfBoundsException", bk_706, by decide +kernel⟩, fun _ h => absurd h List.not_mem_nil⟩, by decide, by decide, bk_473, tk_481, rfl⟩
theorem hd_L_write_IndexOutOfBoundsException : HD RL [(0, 12, 15, 28), (0, 12, 19, 13)] 7 "java/lang/IndexOutOfBoundsException" 15 := ⟨[], (0, 12, 15, 28), [(0, 12, 19, 13)], "java/lang/IndexOutOfBoundsException", rfl, fun _ h => absurd h List.not_mem_nil, by decide, by decide, bk_706, tk_718, rfl⟩
end
