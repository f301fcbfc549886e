def R_law : String := "RangeGravesLaw"
def lw_P (b : Addr) (xs : List Int32) (args : Array Value) (s : State) : Prop := args = #[.ref b] ∧ s.IntsAt b xs ∧ xs.length ≤ 260 ∧ (Jvm.Cond.and given_1 narrow_1).before args s = true
def lw_Q (_ : Array Value) (s : State) (o : Outcome) (t : State) : Prop := o = .returned (some (.int 1)) ∧ Framed s o t [] 600130 7301080
def lw_Z (below : List Frame) (a : Array Value) (s : State) : State → Prop := fun t => ∃ o, t.status = .running ∧ Ended t below o ∧ lw_Q a s o t
/-- the law's own end, with 1 on the stack, nothing written that was there before, its room as the claim has it -/
theorem lw_ret {p : Program} {l : Launch} {e : Env} {s : State} {m : MethodId} {below : List Frame} {meth : Method} {c : Code} {b : Nat} (hx : p.tables.exec = Jvm.exec) (hb : c.code = code) (hr : meth.sig.returnType = ret) (hlocks : meth.locks = false) {pc : Nat} {H : Heap} {ls : Array Slot} (hdg : decode code pc = .ok (.ireturn, 1)) : W p l e room_1 s m #[Value.ref b] below meth c H [] 600130 7301080 (lw_Z below #[Value.ref b] s) (F0 m pc ls [.int 1]) := by
  intro T hT X
  obtain ⟨fs, hret, hrun, hended, hW, hframe⟩ := X.leave (v := some (.int 1)) (hlocks := hlocks) (fun h => by rw [hr] at h; cases h)
  have hmeth' : T.vm.method? m = some meth := X.method'
  refine ⟨T.setFrames fs, ?_, .returned (some (.int 1)), hrun, hended, rfl, ⟨_, rfl⟩, hW, hframe⟩
  jvm_step X.here [X.here.top, hx, hb, hdg, hmeth', hr, ret, narrow_b1]
  (try refine ⟨rfl, ?_⟩); (try refine ⟨rfl, ?_⟩)
  first | (intro acts; rw [hret _ acts rfl rfl rfl]) | rw [hret _ _ rfl rfl rfl]
  exact Steps.refl _
/-- what holds at the law's entry: the machine, the code, the tables' words (any of lw_tbl by 'hts w (by decide +kernel)'), the script of L ints xs at the cell b, what the Statement gives of the start (any of its parts by flat_of_before) -/
def lw_At (p : Program) (s : State) (m : MethodId) (meth : Method) (c : Code) (b L : Nat) (xs : Nat → Int32) : Prop :=
  p.tables.exec = Jvm.exec ∧ c.code = code ∧ meth.sig.returnType = ret ∧ c.maxLocals = 15 ∧ s.vm.findClass R_law = some m.cls ∧ (∀ w ∈ lw_tbl, w.before #[Value.ref b] s = true) ∧ va_X b L xs s s.heap ∧ b < s.heap.size ∧ meth.locks = false ∧ (Jvm.Cond.and given_1 narrow_1).before #[Value.ref b] s = true
theorem ar_known {s : State} {args : Array Value} {ty : FieldType} (hp : ∀ C, ty ≠ .object C) (h : (Cond.arrayClass ty).before args s = true) : ∃ cA : ClassId, ArrOfT s cA ty ∧ va_RA s cA ty := by
  obtain ⟨cA, kA, comp, h1, h2, h3⟩ := Cond.arrayClass_spec (show (Cond.arrayClass ty).holds args s none s [] = true from h)
  refine ⟨cA, fun n z => ⟨fun k h => (by cases h), kA, h2, comp, h3⟩, ?_⟩
  cases ty <;> first | exact h1 | exact absurd rfl (hp _)
theorem ao_known {s : State} {args : Array Value} {C : String} (h : (Cond.arrayOver (.object C)).before args s = true) : ∃ cA : ClassId, ArrOfT s cA (.object C) ∧ va_RA s cA (.object C) := by
  obtain ⟨comp, c, k, h1, h2, h3, h4, h5⟩ := Cond.arrayOver_spec (va_AO.of h)
  exact ⟨c, fun n z => ⟨fun q h => (by cases h), k, h3, comp, h4⟩, k, comp, h3, h4, h1, h5⟩
theorem same_forget {s t : State} {L : List Loc} {k n : Nat} (h : s.sameButNew t L k n) (hL : ∀ q ∈ L, s.heap.size ≤ q.base) : s.sameButNew t [] k n := by
  obtain ⟨h1, h2, h3, h4, h5, h6⟩ := h
  refine ⟨h1, h2, h3, h4, h5, fun a c hc => ?_⟩
  obtain ⟨c', e1, e2, e3, e4⟩ := h6 a c hc
  refine ⟨c', e1, e2, e3, fun i _ => e4 i (fun hm => ?_)⟩
  have := (Array.getElem?_eq_some_iff.mp hc).1
  exact absurd (hL _ hm) (Nat.not_le.mpr this)
set_option maxHeartbeats 4000000 in
theorem whole_of_SP {p : Program} {e : Env} {s : State} {m : MethodId} {below : List Frame} {meth : Method} {c : Code} {l : Launch} {b L : Nat} {xs : Nat → Int32} (C0 : lw_At p s m meth c b L xs)
    (hsp : SP l (some (b, L, xs), none) M_L_law 0 [(0, .ref b)] [] (fun _ => none) s.heap.size 600130 7301080 (fun o _ _ => o = .inl (some (.int 1)))) : W p l e room_1 s m #[Value.ref b] below meth c s.heap [] 0 0 (lw_Z below #[Value.ref b] s) (entryFrame m ([Value.ref b] : List Value).toArray 15) := by
  obtain ⟨hx, hb, hr, hml, hown, hts, hX, hbl, hlocks, hgv⟩ := C0
  have hbig : ∀ w ∈ BIG, w.before #[Value.ref b] s = true := fun w hw => hts w (List.mem_filter.mp hw).1
  have hfl := flat_of_before _ hgv
  obtain ⟨cX0, iX0, nX0⟩ := u_known (C := RX0) (T := TX0) (N := 5) (n := 5) hbig layX0 (hts (Cond.instantiable RX0 5) (tb1 (List.mem_of_getElem? (i := 28) rfl)))
  obtain ⟨cX1, iX1, nX1⟩ := u_known (C := RX1) (T := TX1) (N := 3) (n := 3) hbig layX1 (hts (Cond.instantiable RX1 3) (tb1 (List.mem_of_getElem? (i := 139) rfl)))
  obtain ⟨cX2, iX2, nX2⟩ := u_known (C := RX2) (T := TX2) (N := 2) (n := 2) hbig layX2 (hts (Cond.instantiable RX2 2) (tb1 (List.mem_of_getElem? (i := 61) rfl)))
  obtain ⟨cX3, iX3, nX3⟩ := u_known (C := RX3) (T := TX3) (N := 8) (n := 8) hbig layX3 (hts (Cond.instantiable RX3 8) (tb1 (List.mem_of_getElem? (i := 103) rfl)))
  obtain ⟨cX4, iX4, nX4⟩ := u_known (C := RX4) (T := TX4) (N := 2) (n := 2) hbig layX4 (hts (Cond.instantiable RX4 2) (tb1 (List.mem_of_getElem? (i := 91) rfl)))
  obtain ⟨cX5, iX5, nX5⟩ := u_known (C := RX5) (T := TX5) (N := 1) (n := 1) hbig layX5 (hts (Cond.instantiable RX5 1) (tb1 (List.mem_of_getElem? (i := 158) rfl)))
  obtain ⟨cX6, iX6, nX6⟩ := u_known (C := RX6) (T := TX6) (N := 5) (n := 5) hbig layX6 (hts (Cond.instantiable RX6 5) (tb1 (List.mem_of_getElem? (i := 34) rfl)))
  obtain ⟨cX7, iX7, nX7⟩ := u_known (C := RX7) (T := TX7) (N := 7) (n := 7) hbig layX7 (hts (Cond.instantiable RX7 7) (tb1 (List.mem_of_getElem? (i := 20) rfl)))
  obtain ⟨a0, r0⟩ := ar_known (ty := .int) (fun C h => by cases h) (hts (Cond.arrayClass .int) (tb1 (List.mem_of_getElem? (i := 58) rfl)))
  obtain ⟨a1, r1⟩ := ar_known (ty := .boolean) (fun C h => by cases h) (hts (Cond.arrayClass .boolean) (tb1 (List.mem_of_getElem? (i := 167) rfl)))
  obtain ⟨a2, r2⟩ : ∃ cA : ClassId, ArrOfT s cA .int ∧ va_RA s cA .int := ⟨a0, r0⟩
  obtain ⟨a3, r3⟩ := ao_known (hts (Cond.arrayOver (.object RX2)) (tb1 (List.mem_of_getElem? (i := 60) rfl)))
  obtain ⟨a4, r4⟩ := ao_known (hts (Cond.arrayOver (.object RX3)) (tb1 (List.mem_of_getElem? (i := 145) rfl)))
  have hcl : ∀ (k : Nat) (q : vw_C), vwCl[k]? = some q → u_Kn s q.1 q.2.1 q.2.2 (if k = 0 then cX0 else if k = 1 then cX1 else if k = 2 then cX2 else if k = 3 then cX3 else if k = 4 then cX4 else if k = 5 then cX5 else if k = 6 then cX6 else cX7) (if k = 0 then iX0 else if k = 1 then iX1 else if k = 2 then iX2 else if k = 3 then iX3 else if k = 4 then iX4 else if k = 5 then iX5 else if k = 6 then iX6 else iX7) := by
    intro k q hq
    match k, hq with
    | 0, hq => cases hq; exact nX0
    | 1, hq => cases hq; exact nX1
    | 2, hq => cases hq; exact nX2
    | 3, hq => cases hq; exact nX3
    | 4, hq => cases hq; exact nX4
    | 5, hq => cases hq; exact nX5
    | 6, hq => cases hq; exact nX6
    | 7, hq => cases hq; exact nX7
    | k + 8, hq => simp [vwCl] at hq
  have hty : ∀ (k : Nat) (q : ClassId × FieldType), (tysL (fun k => if k = 0 then a0 else if k = 1 then a1 else if k = 2 then a2 else if k = 3 then a3 else a4))[k]? = some q → ArrOfT s q.1 q.2 ∧ va_RA s q.1 q.2 := by
    intro k q hq
    match k, hq with
    | 0, hq => cases hq; exact r0
    | 1, hq => cases hq; exact r1
    | 2, hq => cases hq; exact r2
    | 3, hq => cases hq; exact r3
    | 4, hq => cases hq; exact r4
    | k + 5, hq => simp [tysL] at hq
  have hKS : KS (fun k => if k = 0 then cX0 else if k = 1 then cX1 else if k = 2 then cX2 else if k = 3 then cX3 else if k = 4 then cX4 else if k = 5 then cX5 else if k = 6 then cX6 else cX7, fun k => if k = 0 then iX0 else if k = 1 then iX1 else if k = 2 then iX2 else if k = 3 then iX3 else if k = 4 then iX4 else if k = 5 then iX5 else if k = 6 then iX6 else iX7) (fun k => if k = 0 then a0 else if k = 1 then a1 else if k = 2 then a2 else if k = 3 then a3 else a4) s := by
    refine ⟨⟨hcl, hty⟩, fun w hw g => va_Nw.of (isWarm_tabs g) (hts w hw), fun own k tx hw => ?_, fun C hC => va_AO.of (hts _ hC), fun q hq => ?_⟩
    · have h1 := hts _ hw
      have h2 : (Cond.stringRef own k tx).holds #[Value.ref b] s none s [] = true := h1
      cases hf : s.vm.findClass own with
      | none =>
        exfalso
        simp [Cond.holds, Cond.value, hf] at h2
        done
      | some cur =>
        obtain ⟨k1, cf, i1, a, g1, g2, g3, g4, g5, g6⟩ := Cond.stringRef_spec hf h2
        exact ⟨a, vk_R.of h1 g6⟩
    · exact absurd hq List.not_mem_nil
  have hA : ∀ a : Nat, a < s.heap.size → ¬ (fun q : Nat => s.heap.size ≤ q) a := fun a h => Nat.not_le.mpr h
  have hini : (Cond.initialized Bundle.tN).before #[Value.ref b] s = true := hts _ (tb1 (List.mem_of_getElem? (i := 11) rfl))
  have hST : ST (fun q : Nat => s.heap.size ≤ q) s s.heap := ⟨
    vx_Zqof (hts (.laysStatic Bundle.tN "UNASSIGNED_STACK" Bundle.steD) (by decide +kernel)) hini (hfl (.isRef (.static Bundle.tN "UNASSIGNED_STACK" Bundle.steD)) (by decide +kernel)) hA,
    vx_Zqof (hts (.laysStatic Bundle.tN "SUPPRESSED_SENTINEL" Bundle.listD) (by decide +kernel)) hini (hfl (.isRef (.static Bundle.tN "SUPPRESSED_SENTINEL" Bundle.listD)) (by decide +kernel)) hA⟩
  have hl := lv_entry ([.ref b]) (n := 15) (Nat.le_of_ble_eq_true rfl)
  rw [lg_entry_eq]
  have hW := hsp p e s m #[Value.ref b] below meth c _ _ (fun q : Nat => s.heap.size ≤ q) s.heap [] 0 0 _ [] ⟨hx, hb, hml, hr, hown, hbig, hlocks, fun hi => absurd hi (by decide), fun hh hx => (by cases hx), hKS, hST, fun q h => h, fun b' L' xs' hx' => by cases hx'; exact ⟨hX, hbl, Nat.not_le.mpr hbl⟩⟩ rfl (fun k q h => by simp [cvS] at h) ⟨fun i j p q h => by simp [cvS] at h, fun k q h => by simp [cvS] at h⟩ va_S.rf rfl hl (Nat.le_of_ble_eq_true rfl) (Nat.le_of_ble_eq_true rfl)
  intro T hT X
  obtain ⟨t, st, o, hrun, hend, hq⟩ := hW T hT X
  refine ⟨t, st, o, hrun, hend, ?_⟩
  rcases hq with ⟨⟨⟨v, hs', ho, hQ, -⟩, hF⟩, L9, hfe, hL⟩ | ⟨q, ho, E, ce, L9, ⟨⟨hs', hQ, -⟩, -⟩, -⟩
  · obtain rfl : v = some (.int 1) := by injection hQ
    exact ⟨ho, hfe.1, hfe.2.1, same_forget hfe.2.2 hL⟩
  · cases hQ
