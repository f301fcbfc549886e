/-! a call's answer where nothing is thrown; the script in a callee; two instructions more -/
def rt (o : Int32 ⊕ String) : Option Int32 := match o with
  | .inl r => some r
  | .inr _ => none
theorem rt_spec {o : Int32 ⊕ String} {r : Int32} (e : rt o = some r) : o = .inl r := by
  unfold rt at e
  split at e
  · exact congrArg Sum.inl (Option.some.inj e)
  · cases e
theorem rt_no {o : Int32 ⊕ String} {r : Int32} (e : rt o = some r) : ∀ E, o ≠ .inr E := fun E h => by
  rw [rt_spec e] at h
  cases h
def jishr (x y : Int32) : Int32 := x >>> (y &&& 31)
theorem sp_ishr {l : Launch} {X : SCR} {M : MT} {pc : Nat} {lv : List (Nat × Value)} {st : List Value} {h : HP} {sz bc bs : Nat} {Q : PST} {x y : Int32} (d : decode (mB M) pc = .ok (.ishr, 1)) (kk : SP l X M (pc + 1) lv (.int (jishr x y) :: st) h sz bc bs Q) : SP l X M pc lv (.int y :: .int x :: st) h sz bc bs Q := fun p e s m args below meth c D cA A H locs cells slots ls hs C hh hP hD hS hz hl hc hs2 => lv_ishr C.1 C.2.1 d (kk p e s m args below meth c D cA A H locs cells slots ls hs C hh hP hD hS hz hl hc hs2)
theorem sp_ldc {l : Launch} {X : SCR} {M : MT} {pc : Nat} {lv : List (Nat × Value)} {st : List Value} {h : HP} {sz bc bs : Nat} {Q : PST} {idx : Nat} {v : Int32} (d : decode (mB M) pc = .ok (.ldc idx, 2)) (hw : Cond.constant (mN M).cls idx v ∈ BIG) (kk : SP l X M (pc + 2) lv (.int v :: st) h sz bc bs Q) : SP l X M pc lv st h sz bc bs Q := fun p e s m args below meth c D cA A H locs cells slots ls hs C hh hP hD hS hz hl hc hs2 => lv_ldc C.1 C.2.1 C.2.2.2.2.1 (C.2.2.2.2.2.1 _ hw) d (kk p e s m args below meth c D cA A H locs cells slots ls hs C hh hP hD hS hz hl hc hs2)
def PcmS (D : va_G) (cA : Nat → ClassId) (args : List Value) (hs : HS) (sz b L : Nat) (xs : Nat → Int32) : Array Value → State → Prop := fun a U =>
  Pcm D cA args hs sz a U ∧ va_X b L xs U U.heap ∧ b < U.heap.size ∧ ¬ va_A (cvS cA hs) sz b
theorem PcmS_blind {D : va_G} {cA : Nat → ClassId} {args : List Value} {hs : HS} {sz b L : Nat} {xs : Nat → Int32} : FrameBlind (PcmS D cA args hs sz b L xs) := by
  intro a U g mk h
  exact ⟨Pcm_blind _ _ _ _ h.1, va_X.moved (u := U) (U := U.calling g mk a) (Vm.Alike.refl U.vm) h.2.1, h.2.2.1, h.2.2.2⟩
/-- a method's contract in one world, with the script beside it -/
def MMS (l : Launch) (M : MT) (args : List Value) (b L : Nat) (xs : Nat → Int32) (h : HP) (sz : Nat) (Q : PST) : Prop :=
  wok M ∧ ∀ (D : va_G) (cA : Nat → ClassId) (hs : HS), h = hget hs → vx_Met l (mN M) (mWs M) (mRm M) (PcmS D cA args hs sz b L xs) (Qcm D cA (va_A (cvS cA hs) sz) Q) (Xcm D cA (va_A (cvS cA hs) sz) Q) (mRm M).cells (mRm M).slots (va_A (cvS cA hs) sz)
theorem MMS_of {l : Launch} {M : MT} (hw : wok M) (hp : plainName (mN M).cls = true) {args : List Value} {b L : Nat} {xs : Nat → Int32} {h : HP} {sz : Nat} {Q : PST} (hlen : (lg_sl args).length ≤ mL M)
    (k : SP l (some (b, L, xs), some []) M 0 (lv_args 0 args) [] h sz (mRm M).cells (mRm M).slots Q) : MMS l M args b L xs h sz Q := by
  refine ⟨hw, fun D cA hs hh => ?_⟩
  refine vx_ofW (cc := mB M) (maxL := mL M) (ret := mRt M) hp rfl ?_
  intro p e s m as below meth c s₁ B hml ht hv
  obtain ⟨⟨rfl, hsz, hP, hD0, hK, hT⟩, hX1, hX2, hX3⟩ := hv
  have hts := atoms_spec (ws := mWs M) B.pre
  have hD := va_A_D (sz := sz) hD0
  have hl := lv_entry args (n := mL M) hlen
  rw [lg_entry_eq]
  refine k p e s m _ below meth c D cA _ s.heap [] 0 0 _ hs ⟨B.exec, B.bytes, hml, B.returns, findClass_of_methodNamed B.named, fun w hw => hts w (List.mem_cons_of_mem _ hw), B.notSynchronized, fun hi => (name_of_methodNamed B.named B.method).1.trans hi, ?_, hK, ?_, ?_, ?_⟩ hh hP hD va_S.rf hsz hl (by omega) (by omega)
  · intro hh hx
    cases hx
    cases htt : c.exceptionTable.toList with
    | nil => rfl
    | cons x r => exact (ht x (by rw [htt]; exact List.mem_cons_self)).elim
  · exact hT
  · intro q hq
    exact Or.inr (by omega)
  · intro b' L' xs' hX'
    cases hX'
    exact ⟨hX1, hX2, hX3⟩
theorem sp_callSs {l : Launch} {X : SCR} {M : MT} {pc : Nat} {lv : List (Nat × Value)} {st : List Value} {h : HP} {sz bc bs : Nat} {Q : PST} {z : MT} {bc2 bs2 : Nat} {As : List Value} {idx b L : Nat} {xs : Nat → Int32} {st1 : List Value} (hX : X.1 = some (b, L, xs)) (hM : MMS l z As b L xs h sz (fun o h' sz' => ∃ r : Int32, o = .inl (some (.int r)) ∧ SP l X M (pc + 3) lv (.int r :: st) h' sz' bc2 bs2 Q)) (hk : mKd z = 1) (d : decode (mB M) pc = .ok (.invokestatic idx, 3)) (hnp : As.length = mNp z) (hck : CK M z idx) (hsum : (st.map fun v => v.category).sum ≤ 8) (hbc : bc = bc2 + (mRm z).cells) (hbs : bs = bs2 + (mRm z).slots) (hst : st1 = As.reverse ++ st)  : SP l X M pc lv st1 h sz bc bs Q := by
  intro p e s m args below meth c D cA A H locs cells slots ls hs C hh hP hD hS hz hl hc hs2
  obtain ⟨⟨hcw, hnp2, hy1, hy2⟩, hM⟩ := hM
  have hM := hM D cA hs hh
  obtain ⟨hlk, hfr, hlo⟩ := hck
  have hsz2 : ls.size = mL M := hl.1
  have hall : ∀ w ∈ callW z, w.before args s = true := fun w hw => C.2.2.2.2.2.1 w (hcw w hw)
  rw [show callW z = [Cond.static (mN z), Cond.initialized (mN z).cls, Cond.code (mN z) (mB z) (mL z) (mRt z)] by simp [callW, hk]] at hcw hall
  have hpay : ∀ w ∈ mWs z, ∀ (a' : Array Value) (U : State), s.WarmedH U.vm → w.before a' U = true := by
    intro w hw a' U hW
    rcases List.mem_cons.mp hw with hw | hw
    · subst hw; exact word_at hW (big_good (hcw _ (by simp))) (hall _ (by simp))
    · exact word_at hW (big_good hw) (C.2.2.2.2.2.1 _ hw)
  have hnn : ∀ sig, parseMethodDescriptor (mN z).desc = some sig → mNp z = sig.parameters.length := fun sig hsig => by rw [hsig] at hnp2; exact (Option.some.inj hnp2).symm
  obtain ⟨x1, x2, x3⟩ := C.2.2.2.2.2.2.2.2.2.2.2.2 b L xs hX
  have hpre : ∀ U : State, U.heap = H → s.WarmedH U.vm → PcmS D cA As hs sz b L xs As.toArray U := by
    intro U hU hW
    have hH : H[b]? = s.heap[b]? := hS.2.1 b x2 x3
    have hlt : b < U.heap.size := by have h1 := hS.1; rw [hU]; omega
    refine ⟨Pcm_here C hP hD hS hz As U hU hW, ?_, hlt, fun hb => x3 (va_A_sub hD hS hz C.2.2.2.2.2.2.2.2.2.2.2.1 _ hb)⟩
    rw [hU]
    exact (x1.kept hH).moved hW.alike
  have hlr : 2 * (F0 m pc ls st1).monitorRoom + (st.map fun v => v.category).sum ≤ 8 := by show 2 * 0 + _ ≤ 8; omega
  rcases hlk with hlk | ⟨host, hlk⟩
  · refine sp_fin (vx_runS (As := As) (rest := st) (index := idx) ⟨C.1, C.2.1, C.2.2.1, C.2.2.2.2.1, C.2.2.2.2.2.1⟩ hM ⟨⟨rfl, rfl, hfr, hlo, hpay, List.mem_cons_self, hall _ (by simp), hall _ (by simp), ⟨hy1, hy2⟩, hnn, C.2.2.2.2.2.1 _ hlk⟩, hall _ (by simp)⟩ ⟨PcmS_blind, hpre⟩ rfl hnp hsz2 hst hlr d ⟨by omega, by omega⟩) hS (va_A_sub hD hS hz C.2.2.2.2.2.2.2.2.2.2.2.1) (fun E h' sz' z => by obtain ⟨v, z, -⟩ := z; cases z) (fun v hs' H1 locs1 hq hP1 hD1 hS1 => ?_)
    obtain ⟨r', hv', kk⟩ := hq
    cases hv'
    exact kk p e s m args below meth c D cA A H1 locs1 (cells + (mRm z).cells) (slots + (mRm z).slots) ls hs' C rfl hP1 hD1 hS1 rfl hl (by omega) (by omega)
  · refine sp_fin (vx_runSN (As := As) (rest := st) (index := idx) (host := host) ⟨C.1, C.2.1, C.2.2.1, C.2.2.2.2.1, C.2.2.2.2.2.1⟩ hM ⟨⟨⟨rfl, rfl, hfr, hlo, hpay, List.mem_cons_self⟩, hall _ (by simp), hall _ (by simp), ⟨hy1, hy2⟩, hnn, va_Nw.use rfl (C.2.2.2.2.2.2.2.2.2.1.2.1 _ hlk rfl)⟩, hall _ (by simp), trivial⟩ ⟨PcmS_blind, hpre⟩ rfl hnp hsz2 hst hlr d ⟨by omega, by omega⟩) hS (va_A_sub hD hS hz C.2.2.2.2.2.2.2.2.2.2.2.1) (fun E h' sz' z => by obtain ⟨v, z, -⟩ := z; cases z) (fun v hs' H1 locs1 hq hP1 hD1 hS1 => ?_)
    obtain ⟨r', hv', kk⟩ := hq
    cases hv'
    exact kk p e s m args below meth c D cA A H1 locs1 (cells + (mRm z).cells) (slots + (mRm z).slots) ls hs' C rfl hP1 hD1 hS1 rfl hl (by omega) (by omega)
