def NEWC (ci : Nat) (own : String) (idx n : Nat) (fs : List Value) : Prop := ∃ (C : String) (T : u_T) (ty0 : Nat → FieldType), vwCl[ci]? = some (C, T, n) ∧ (∀ w ∈ u_ws C T n, w ∈ BIG) ∧ (∀ k, k < n → parseFieldDescriptor (T k).2.2.1 = some (ty0 k)) ∧ Cond.classLink own idx C ∈ BIG ∧ Cond.instantiable C n ∈ BIG ∧ Cond.initialized C ∈ BIG ∧ ∀ j, j < n → defaultValue (ty0 j) = vp_V fs j
theorem hget_lt {D : va_G} {cl : List vw_C} {cA : Nat → ClassId} {hs : HS} {H : Heap} (hP : va_P D cl (cvS cA hs) H) {a : Nat} {e : CE} (h : hget hs a = some e) : a < H.size := by
  obtain ⟨k, hk⟩ := hget_at h
  exact (hP k _ (cvS_at hk)).lt
theorem sp_new {l : Launch} {X : SCR} {M : MT} {pc : Nat} {lv : List (Nat × Value)} {st : List Value} {h : HP} {sz bc bs : Nat} {Q : PST} {bc2 bs2 ci idx n : Nat} {fs : List Value} (hN : NEWC ci (mN M).cls idx n fs) (d : decode (mB M) pc = .ok (.new idx, 3)) (hbc : bc = bc2 + 1) (hbs : bs = bs2 + n) (kk : (∀ a e, h a = some e → a < sz) → SP l X M (pc + 3) lv (.ref sz :: st) (hup h sz (.inr (ci, fs))) (sz + 1) bc2 bs2 Q) : SP l X M pc lv st h sz bc bs Q := by
  intro p e s m args below meth c D cA A H locs cells slots ls hs C hh hP hD hS hz hl hc hs2
  subst hz
  obtain ⟨C0, T, ty0, hc0, hin, hty, w1, w2, w3, hfs⟩ := hN
  have hKn := C.2.2.2.2.2.2.2.2.2.1.1.1 ci _ hc0
  refine W.newcK C.1 C.2.1 C.2.2.2.2.1 (C.2.2.2.2.2.1 _ w1) (C.2.2.2.2.2.1 _ w2) (C.2.2.2.2.2.1 _ w3) rfl d (by omega) (by omega) hKn.2.1 rfl fun H1 kC hkC e1 z1 o1 => ?_
  have hk : ∀ (k : Nat) (x : Nat × va_E), (cvS cA hs)[k]? = some x → H1[x.1]? = H[x.1]? := fun k x hx => o1 x.1 ((hP k x hx).lt)
  have hPn := (hP.kept hk).app (w2 := [(H.size, cvE cA (.inr (ci, fs)))]) (fun k x hx => by
    have hz : k < 1 := (List.getElem?_eq_some_iff.mp hx).1
    rw [show k = 0 by omega] at hx
    cases hx
    exact ⟨_, hc0, (u_born ty0 C.2.2.2.2.2.1 hin hKn hkC e1 hty).to hfs⟩)
  have hDn : va_D A (cvS cA hs ++ [(H.size, cvE cA (.inr (ci, fs)))]) := hD.push hP rfl (C.2.2.2.2.2.2.2.2.2.2.2.1 _ hS.1)
  have hSn : va_S A s.heap H1 locs := ⟨Nat.le_trans hS.1 (by omega), fun x h1 h2 => (o1 x (Nat.lt_of_lt_of_le h1 hS.1)).trans (hS.2.1 x h1 h2), hS.2.2⟩
  rw [cvS_push] at hPn hDn
  exact kk (fun a e ha => hget_lt hP (by rw [← hh]; exact ha)) p e s m args below meth c D cA A H1 locs (cells + 1) (slots + n) ls _ C (by rw [hh]; exact (hget_push (hnd_of hDn)).symm) hPn hDn hSn z1 hl (by omega) (by omega)
theorem sp_newaI {l : Launch} {X : SCR} {M : MT} {pc : Nat} {lv : List (Nat × Value)} {st : List Value} {h : HP} {sz bc bs : Nat} {Q : PST} {bc2 bs2 : Nat} {n : Int32} {N : Nat} (hw : Cond.arrayClass .int ∈ BIG) (d : decode (mB M) pc = .ok (.newarray .int, 2)) (hn : ¬ n < 0) (hN : n.toNatClampNeg = N) (hbytes : N * componentBytes .int ≤ 536870912) (hbc : bc = bc2 + 1) (hbs : bs = bs2 + N) (kk : (∀ a e, h a = some e → a < sz) → SP l X M (pc + 2) lv (.ref sz :: st) (hup h sz (.inl (0, N, .inl (fun _ => 0)))) (sz + 1) bc2 bs2 Q) : SP l X M pc lv (.int n :: st) h sz bc bs Q := by
  intro p e s m args below meth c D cA A H locs cells slots ls hs C hh hP hD hS hz hl hc hs2
  subst hz
  refine va_newaK (atype := .int) C.1 C.2.1 (C.2.2.2.2.2.1 _ hw) rfl d rfl hn hN hbytes (by omega) (by omega) rfl fun H1 cA1 e1 z1 o1 hAr hNm => ?_
  have hR : s.vm.findClass ("[" ++ (FieldType.int).toString) = some (cA 0) := (C.2.2.2.2.2.2.2.2.2.1.1.2 0 _ (tysL_at (cA := cA) (k := 0) (by decide))).2
  have hcc : cA1 = cA 0 := Option.some.inj (hNm.symm.trans hR)
  subst hcc
  have hk : ∀ (k : Nat) (x : Nat × va_E), (cvS cA hs)[k]? = some x → H1[x.1]? = H[x.1]? := fun k x hx => o1 x.1 ((hP k x hx).lt)
  have hPn := (hP.kept hk).app (w2 := [(H.size, cvE cA (.inl (0, N, .inl (fun _ => 0))))]) (fun k x hx => by
    have hz : k < 1 := (List.getElem?_eq_some_iff.mp hx).1
    rw [show k = 0 by omega] at hx
    cases hx
    show H1[H.size]? = some (vp_cell _ _)
    rw [vp_cell_i]
    exact e1)
  have hDn : va_D A (cvS cA hs ++ [(H.size, cvE cA (.inl (0, N, .inl (fun _ => 0))))]) := hD.push hP rfl (C.2.2.2.2.2.2.2.2.2.2.2.1 _ hS.1)
  have hSn : va_S A s.heap H1 locs := ⟨Nat.le_trans hS.1 (by omega), fun x h1 h2 => (o1 x (Nat.lt_of_lt_of_le h1 hS.1)).trans (hS.2.1 x h1 h2), hS.2.2⟩
  rw [cvS_push] at hPn hDn
  exact kk (fun a e ha => hget_lt hP (by rw [← hh]; exact ha)) p e s m args below meth c D cA A H1 locs (cells + 1) (slots + N) ls _ C (by rw [hh]; exact (hget_push (hnd_of hDn)).symm) hPn hDn hSn z1 hl (by omega) (by omega)
theorem sp_newaZ {l : Launch} {X : SCR} {M : MT} {pc : Nat} {lv : List (Nat × Value)} {st : List Value} {h : HP} {sz bc bs : Nat} {Q : PST} {bc2 bs2 : Nat} {n : Int32} {N : Nat} (hw : Cond.arrayClass .boolean ∈ BIG) (d : decode (mB M) pc = .ok (.newarray .boolean, 2)) (hn : ¬ n < 0) (hN : n.toNatClampNeg = N) (hbytes : N * componentBytes .boolean ≤ 536870912) (hbc : bc = bc2 + 1) (hbs : bs = bs2 + N) (kk : (∀ a e, h a = some e → a < sz) → SP l X M (pc + 2) lv (.ref sz :: st) (hup h sz (.inl (1, N, .inl (fun _ => 0)))) (sz + 1) bc2 bs2 Q) : SP l X M pc lv (.int n :: st) h sz bc bs Q := by
  intro p e s m args below meth c D cA A H locs cells slots ls hs C hh hP hD hS hz hl hc hs2
  subst hz
  refine va_newaK (atype := .boolean) C.1 C.2.1 (C.2.2.2.2.2.1 _ hw) rfl d rfl hn hN hbytes (by omega) (by omega) rfl fun H1 cA1 e1 z1 o1 hAr hNm => ?_
  have hR : s.vm.findClass ("[" ++ (FieldType.boolean).toString) = some (cA 1) := (C.2.2.2.2.2.2.2.2.2.1.1.2 1 _ (tysL_at (cA := cA) (k := 1) (by decide))).2
  have hcc : cA1 = cA 1 := Option.some.inj (hNm.symm.trans hR)
  subst hcc
  have hk : ∀ (k : Nat) (x : Nat × va_E), (cvS cA hs)[k]? = some x → H1[x.1]? = H[x.1]? := fun k x hx => o1 x.1 ((hP k x hx).lt)
  have hPn := (hP.kept hk).app (w2 := [(H.size, cvE cA (.inl (1, N, .inl (fun _ => 0))))]) (fun k x hx => by
    have hz : k < 1 := (List.getElem?_eq_some_iff.mp hx).1
    rw [show k = 0 by omega] at hx
    cases hx
    show H1[H.size]? = some (vp_cell _ _)
    rw [vp_cell_i]
    exact e1)
  have hDn : va_D A (cvS cA hs ++ [(H.size, cvE cA (.inl (1, N, .inl (fun _ => 0))))]) := hD.push hP rfl (C.2.2.2.2.2.2.2.2.2.2.2.1 _ hS.1)
  have hSn : va_S A s.heap H1 locs := ⟨Nat.le_trans hS.1 (by omega), fun x h1 h2 => (o1 x (Nat.lt_of_lt_of_le h1 hS.1)).trans (hS.2.1 x h1 h2), hS.2.2⟩
  rw [cvS_push] at hPn hDn
  exact kk (fun a e ha => hget_lt hP (by rw [← hh]; exact ha)) p e s m args below meth c D cA A H1 locs (cells + 1) (slots + N) ls _ C (by rw [hh]; exact (hget_push (hnd_of hDn)).symm) hPn hDn hSn z1 hl (by omega) (by omega)
theorem sp_anew3 {l : Launch} {X : SCR} {M : MT} {pc : Nat} {lv : List (Nat × Value)} {st : List Value} {h : HP} {sz bc bs : Nat} {Q : PST} {bc2 bs2 : Nat} {n : Int32} {N idx : Nat} (hw : Cond.classLink (mN M).cls idx RX2 ∈ BIG) (hov : Cond.arrayOver (.object RX2) ∈ lw_tbl) (d : decode (mB M) pc = .ok (.anewarray idx, 3)) (hn : ¬ n < 0) (hN : n.toNatClampNeg = N) (hbytes : N * 4 ≤ 536870912) (hbc : bc = bc2 + 1) (hbs : bs = bs2 + N) (kk : (∀ a e, h a = some e → a < sz) → SP l X M (pc + 3) lv (.ref sz :: st) (hup h sz (.inl (3, N, .inr (.inr (.inr (.inr (fun _ => none))))))) (sz + 1) bc2 bs2 Q) : SP l X M pc lv (.int n :: st) h sz bc bs Q := by
  intro p e s m args below meth c D cA A H locs cells slots ls hs C hh hP hD hS hz hl hc hs2
  subst hz
  subst hN
  refine W.anew C.1 C.2.1 C.2.2.2.2.1 (C.2.2.2.2.2.1 _ hw) (va_AO.use (C.2.2.2.2.2.2.2.2.2.1.2.2.2.1 _ hov)) rfl d rfl hn hbytes (by omega) (by omega) fun cA1 kA comp f1 f2 f3 f4 => ?_
  obtain ⟨-, -, -, -, -, hR⟩ := (show va_RA s (cA 3) (.object RX2) from (C.2.2.2.2.2.2.2.2.2.1.1.2 3 _ (tysL_at (cA := cA) (k := 3) (by decide))).2)
  have hcc : cA1 = cA 3 := Option.some.inj (f1.symm.trans hR)
  subst hcc
  generalize hH1 : H.push ({ cls := cA 3, slots := Array.replicate n.toNatClampNeg .null, vm := .none } : Cell) = H1
  have z1 : H1.size = H.size + 1 := by rw [← hH1, Array.size_push]
  have e1 : H1[H.size]? = some (arrV (cA 3) n.toNatClampNeg (fun _ => .null)) := by rw [← hH1, Array.getElem?_push_size, ← arrV_new]
  have o1 : ∀ q : Nat, q < H.size → H1[q]? = H[q]? := fun q hq => by rw [← hH1, Array.getElem?_push, if_neg (Nat.ne_of_lt hq)]
  have hk : ∀ (k : Nat) (x : Nat × va_E), (cvS cA hs)[k]? = some x → H1[x.1]? = H[x.1]? := fun k x hx => o1 x.1 ((hP k x hx).lt)
  have hPn := (hP.kept hk).app (w2 := [(H.size, cvE cA (.inl (3, n.toNatClampNeg, .inr (.inr (.inr (.inr (fun _ => none)))))))]) (fun k x hx => by
    have hz : k < 1 := (List.getElem?_eq_some_iff.mp hx).1
    rw [show k = 0 by omega] at hx
    cases hx
    show H1[H.size]? = some (vp_cell _ _)
    rw [vp_cell_q]
    exact e1)
  have hDn : va_D A (cvS cA hs ++ [(H.size, cvE cA (.inl (3, n.toNatClampNeg, .inr (.inr (.inr (.inr (fun _ => none)))))))]) := hD.push hP rfl (C.2.2.2.2.2.2.2.2.2.2.2.1 _ hS.1)
  have hSn : va_S A s.heap H1 locs := ⟨Nat.le_trans hS.1 (by omega), fun x h1 h2 => (o1 x (Nat.lt_of_lt_of_le h1 hS.1)).trans (hS.2.1 x h1 h2), hS.2.2⟩
  rw [cvS_push] at hPn hDn
  exact kk (fun a e ha => hget_lt hP (by rw [← hh]; exact ha)) p e s m args below meth c D cA A H1 locs (cells + 1) (slots + n.toNatClampNeg) ls _ C (by rw [hh]; exact (hget_push (hnd_of hDn)).symm) hPn hDn hSn z1 hl (by omega) (by omega)
theorem sp_anew4 {l : Launch} {X : SCR} {M : MT} {pc : Nat} {lv : List (Nat × Value)} {st : List Value} {h : HP} {sz bc bs : Nat} {Q : PST} {bc2 bs2 : Nat} {n : Int32} {N idx : Nat} (hw : Cond.classLink (mN M).cls idx RX3 ∈ BIG) (hov : Cond.arrayOver (.object RX3) ∈ lw_tbl) (d : decode (mB M) pc = .ok (.anewarray idx, 3)) (hn : ¬ n < 0) (hN : n.toNatClampNeg = N) (hbytes : N * 4 ≤ 536870912) (hbc : bc = bc2 + 1) (hbs : bs = bs2 + N) (kk : (∀ a e, h a = some e → a < sz) → SP l X M (pc + 3) lv (.ref sz :: st) (hup h sz (.inl (4, N, .inr (.inr (.inr (.inr (fun _ => none))))))) (sz + 1) bc2 bs2 Q) : SP l X M pc lv (.int n :: st) h sz bc bs Q := by
  intro p e s m args below meth c D cA A H locs cells slots ls hs C hh hP hD hS hz hl hc hs2
  subst hz
  subst hN
  refine W.anew C.1 C.2.1 C.2.2.2.2.1 (C.2.2.2.2.2.1 _ hw) (va_AO.use (C.2.2.2.2.2.2.2.2.2.1.2.2.2.1 _ hov)) rfl d rfl hn hbytes (by omega) (by omega) fun cA1 kA comp f1 f2 f3 f4 => ?_
  obtain ⟨-, -, -, -, -, hR⟩ := (show va_RA s (cA 4) (.object RX3) from (C.2.2.2.2.2.2.2.2.2.1.1.2 4 _ (tysL_at (cA := cA) (k := 4) (by decide))).2)
  have hcc : cA1 = cA 4 := Option.some.inj (f1.symm.trans hR)
  subst hcc
  generalize hH1 : H.push ({ cls := cA 4, slots := Array.replicate n.toNatClampNeg .null, vm := .none } : Cell) = H1
  have z1 : H1.size = H.size + 1 := by rw [← hH1, Array.size_push]
  have e1 : H1[H.size]? = some (arrV (cA 4) n.toNatClampNeg (fun _ => .null)) := by rw [← hH1, Array.getElem?_push_size, ← arrV_new]
  have o1 : ∀ q : Nat, q < H.size → H1[q]? = H[q]? := fun q hq => by rw [← hH1, Array.getElem?_push, if_neg (Nat.ne_of_lt hq)]
  have hk : ∀ (k : Nat) (x : Nat × va_E), (cvS cA hs)[k]? = some x → H1[x.1]? = H[x.1]? := fun k x hx => o1 x.1 ((hP k x hx).lt)
  have hPn := (hP.kept hk).app (w2 := [(H.size, cvE cA (.inl (4, n.toNatClampNeg, .inr (.inr (.inr (.inr (fun _ => none)))))))]) (fun k x hx => by
    have hz : k < 1 := (List.getElem?_eq_some_iff.mp hx).1
    rw [show k = 0 by omega] at hx
    cases hx
    show H1[H.size]? = some (vp_cell _ _)
    rw [vp_cell_q]
    exact e1)
  have hDn : va_D A (cvS cA hs ++ [(H.size, cvE cA (.inl (4, n.toNatClampNeg, .inr (.inr (.inr (.inr (fun _ => none)))))))]) := hD.push hP rfl (C.2.2.2.2.2.2.2.2.2.2.2.1 _ hS.1)
  have hSn : va_S A s.heap H1 locs := ⟨Nat.le_trans hS.1 (by omega), fun x h1 h2 => (o1 x (Nat.lt_of_lt_of_le h1 hS.1)).trans (hS.2.1 x h1 h2), hS.2.2⟩
  rw [cvS_push] at hPn hDn
  exact kk (fun a e ha => hget_lt hP (by rw [← hh]; exact ha)) p e s m args below meth c D cA A H1 locs (cells + 1) (slots + n.toNatClampNeg) ls _ C (by rw [hh]; exact (hget_push (hnd_of hDn)).symm) hPn hDn hSn z1 hl (by omega) (by omega)
theorem sp_objInit {l : Launch} {X : SCR} {M : MT} {pc : Nat} {lv : List (Nat × Value)} {st : List Value} {h : HP} {sz bc bs : Nat} {Q : PST} {idx a : Nat} (hw : Cond.methodLink (mN M).cls idx objectInit ∈ BIG) (hw2 : Cond.instanceMethod objectInit ∈ BIG) (hw3 : Cond.code objectInit ⟨#[0xb1]⟩ 1 none ∈ BIG) (d : decode (mB M) pc = .ok (.invokespecial idx, 3)) (hfr : 1 ≤ (mRm M).frames) (hlo : (st.map fun v => v.category).sum + 12 ≤ (mRm M).locals) (kk : SP l X M (pc + 3) lv st h sz bc bs Q) : SP l X M pc lv (.ref a :: st) h sz bc bs Q := by
  intro p e s m args below meth c D cA A H locs cells slots ls hs C hh hP hD hS hz hl hc hs2
  refine W.objInit C.1 C.2.1 C.2.2.2.2.1 (C.2.2.2.2.2.1 _ hw) (C.2.2.2.2.2.1 _ hw2) (C.2.2.2.2.2.1 _ hw3) rfl (hl.1.trans C.2.2.1.symm) rfl d hfr (by show 2 * 0 + _ + 12 ≤ _; omega) ?_
  exact kk p e s m args below meth c D cA A H locs cells slots ls hs C hh hP hD hS hz hl hc hs2
theorem sp_mmax {l : Launch} {X : SCR} {M : MT} {pc : Nat} {lv : List (Nat × Value)} {st : List Value} {h : HP} {sz bc bs : Nat} {Q : PST} {idx : Nat} {x y : Int32} (hw : Cond.methodLink (mN M).cls idx Lib.Math.max.name ∈ BIG) (hw2 : Cond.static Lib.Math.max.name ∈ BIG) (hw3 : Cond.initialized "java/lang/Math" ∈ BIG) (hw4 : Cond.code Lib.Math.max.name Lib.Math.max.code 2 (some .int) ∈ BIG) (d : decode (mB M) pc = .ok (.invokestatic idx, 3)) (hfr : 1 ≤ (mRm M).frames) (hlo : (st.map fun v => v.category).sum + 13 ≤ (mRm M).locals) (kk : SP l X M (pc + 3) lv (.int (if x < y then y else x) :: st) h sz bc bs Q) : SP l X M pc lv (.int y :: .int x :: st) h sz bc bs Q := by
  intro p e s m args below meth c D cA A H locs cells slots ls hs C hh hP hD hS hz hl hc hs2
  exact va_mmax C.1 C.2.1 (C.2.2.1.trans hl.1.symm) C.2.2.2.2.1 (C.2.2.2.2.2.1 _ hw) (C.2.2.2.2.2.1 _ hw2) (C.2.2.2.2.2.1 _ hw3) (C.2.2.2.2.2.1 _ hw4) hfr hlo (by omega) (by omega) d (kk p e s m args below meth c D cA A H locs cells slots ls hs C hh hP hD hS hz hl hc hs2)
theorem sp_mmin {l : Launch} {X : SCR} {M : MT} {pc : Nat} {lv : List (Nat × Value)} {st : List Value} {h : HP} {sz bc bs : Nat} {Q : PST} {idx : Nat} {x y : Int32} (hw : Cond.methodLink (mN M).cls idx Lib.Math.min.name ∈ BIG) (hw2 : Cond.static Lib.Math.min.name ∈ BIG) (hw3 : Cond.initialized "java/lang/Math" ∈ BIG) (hw4 : Cond.code Lib.Math.min.name Lib.Math.min.code 2 (some .int) ∈ BIG) (d : decode (mB M) pc = .ok (.invokestatic idx, 3)) (hfr : 1 ≤ (mRm M).frames) (hlo : (st.map fun v => v.category).sum + 13 ≤ (mRm M).locals) (kk : SP l X M (pc + 3) lv (.int (if y < x then y else x) :: st) h sz bc bs Q) : SP l X M pc lv (.int y :: .int x :: st) h sz bc bs Q := by
  intro p e s m args below meth c D cA A H locs cells slots ls hs C hh hP hD hS hz hl hc hs2
  exact va_mmin C.1 C.2.1 (C.2.2.1.trans hl.1.symm) C.2.2.2.2.1 (C.2.2.2.2.2.1 _ hw) (C.2.2.2.2.2.1 _ hw2) (C.2.2.2.2.2.1 _ hw3) (C.2.2.2.2.2.1 _ hw4) hfr hlo (by omega) (by omega) d (kk p e s m args below meth c D cA A H locs cells slots ls hs C hh hP hD hS hz hl hc hs2)
theorem sp_copyi {l : Launch} {X : SCR} {M : MT} {pc : Nat} {lv : List (Nat × Value)} {st : List Value} {h : HP} {sz bc bs : Nat} {Q : PST} {idx a0 a n0 n1 : Nat} {f g : Nat → Int32} {sp dp n : Int32} (hw : Cond.methodLink (mN M).cls idx arraycopyName ∈ BIG) (hw2 : Cond.native arraycopyName ∈ BIG) (hw3 : Cond.static arraycopyName ∈ BIG) (hw4 : Cond.initialized "java/lang/System" ∈ BIG) (d : decode (mB M) pc = .ok (.invokestatic idx, 3)) (ha0 : h a0 = some (.inl (0, n0, .inl f))) (ha : h a = some (.inl (0, n1, .inl g))) (h1 : ¬ sp < 0) (h2 : ¬ dp < 0) (h3 : ¬ n < 0) (h4 : sp.toNatClampNeg + n.toNatClampNeg ≤ n0) (h5 : dp.toNatClampNeg + n.toNatClampNeg ≤ n1) (hfr : 1 ≤ (mRm M).frames) (hlo : (st.map fun v => v.category).sum + (nativeFrameWords "java/lang/System" "arraycopy" 5 + 11) ≤ (mRm M).locals) (kk : ∀ sz', SP l X M (pc + 3) lv st (hup h a (.inl (0, n1, .inl (va_cpy f g sp.toNatClampNeg dp.toNatClampNeg n.toNatClampNeg)))) sz' bc bs Q) : SP l X M pc lv (.int n :: .int dp :: .ref a :: .int sp :: .ref a0 :: st) h sz bc bs Q := by
  intro p e s m args below meth c D cA A H locs cells slots ls hs C hh hP hD hS hz hl hc hs2
  obtain ⟨k0, hk0⟩ := hget_at (hs := hs) (by rw [← hh]; exact ha)
  obtain ⟨k1, hk1⟩ := hget_at (hs := hs) (by rw [← hh]; exact ha0)
  refine va_copyi C.1 C.2.1 (C.2.2.1.trans hl.1.symm) C.2.2.2.2.1 (C.2.2.2.2.2.1 _ hw) (C.2.2.2.2.2.1 _ hw2) (C.2.2.2.2.2.1 _ hw3) (C.2.2.2.2.2.1 _ hw4) C.2.2.2.2.2.2.2.2.2.1.1 hP hD hS k1 k0 0 0 (cvS_at (cA := cA) hk1) (cvS_at (cA := cA) hk0) (tysL_at (cA := cA) (k := 0) (by decide)) (tysL_at (cA := cA) (k := 0) (by decide)) rfl h1 h2 h3 h4 h5 (fun _ _ => rfl) hfr hlo d (fun H1 locs1 hP1 hD1 hS1 => ?_)
  rw [show (Sum.inl (cA 0, n1, .inl (va_cpy f g sp.toNatClampNeg dp.toNatClampNeg n.toNatClampNeg)) : va_E) = cvE cA (.inl (0, n1, .inl (va_cpy f g sp.toNatClampNeg dp.toNatClampNeg n.toNatClampNeg))) from rfl, cvS_set] at hP1 hD1
  exact (kk H1.size p e s m args below meth c D cA A H1 locs1 cells slots ls _ C (by rw [hh, (hget_set (hnd_of hD) hk0).2]) hP1 hD1 hS1 rfl hl hc hs2)
def CK (M z : MT) (idx : Nat) : Prop := (Cond.methodLink (mN M).cls idx (mN z) ∈ BIG ∨ ∃ host, Cond.methodLinkNest (mN M).cls idx (mN z) host ∈ lw_tbl) ∧ (mRm z).frames + 1 ≤ (mRm M).frames ∧ 8 + (mL z + 11) + (mRm z).locals ≤ (mRm M).locals
theorem va_A_sub {cA : Nat → ClassId} {A : Nat → Prop} {hs : HS} {sz : Nat} {H : Heap} {s : State} {locs : List Loc} (hD : va_D A (cvS cA hs)) (hS : va_S A s.heap H locs) (hz : H.size = sz) (hA : ∀ q : Nat, s.heap.size ≤ q → A q) : ∀ q : Nat, va_A (cvS cA hs) sz q → A q := by
  intro q hq
  rcases hq with ⟨k, e, hk⟩ | hq
  · exact hD.2 k _ hk
  · exact hA q (by have := hS.1; omega)
theorem Pcm_here {l : Launch} {X : SCR} {M : MT} {p : Program} {s : State} {m : MethodId} {args : Array Value} {meth : Method} {c : Code} {D : va_G} {cA : Nat → ClassId} {A : Nat → Prop} {H : Heap} {locs : List Loc} {hs : HS} {sz : Nat} (C : Cx l X M p s m args meth c D cA A) (hP : va_P D vwCl (cvS cA hs) H) (hD : va_D A (cvS cA hs)) (hS : va_S A s.heap H locs) (hz : H.size = sz) (As : List Value) : ∀ U : State, U.heap = H → s.WarmedH U.vm → Pcm D cA As hs sz As.toArray U := by
  intro U hU hW
  refine ⟨rfl, by rw [hU]; exact hz, by rw [hU]; exact hP, hD.weaken (fun _ _ _ _ => trivial), KS.warm hW C.2.2.2.2.2.2.2.2.2.1, ?_⟩
  rw [hU]
  exact ((C.2.2.2.2.2.2.2.2.2.2.1.kept hS.2.1).narrow (va_A_sub hD hS hz C.2.2.2.2.2.2.2.2.2.2.2.1)).moved hW.alike
theorem sp_fin {p : Program} {l : Launch} {e : Env} {R : Room} {s : State} {m : MethodId} {args : Array Value} {below : List Frame} {meth : Method} {c : Code} {H : Heap} {locs : List Loc} {cells slots mc ms pc : Nat} {Qf : State → Prop} {ls : Array Slot} {st0 rest : List Value} {D : va_G} {cA : Nat → ClassId} {A A1 : Nat → Prop} {Q' : PST} {a : Array Value}
    (hr : vx_Run p l e R s m args below meth c H locs cells slots mc ms (F0 m pc ls st0) rest (Qcm D cA A1 Q' a) (Xcm D cA A1 Q') A1) (hS : va_S A s.heap H locs) (hA1 : ∀ q, A1 q → A q) (hX : ∀ E h' sz', Q' (.inr E) h' sz' → False)
    (kk : ∀ (v : Option Value) (hs' : HS) (H1 : Heap) (locs1 : List Loc), Q' (.inl v) (hget hs') H1.size → va_P D vwCl (cvS cA hs') H1 → va_D A (cvS cA hs') → va_S A s.heap H1 locs1 → W p l e R s m args below meth c H1 locs1 (cells + mc) (slots + ms) Qf (F0 m (pc + 3) ls (v.toList ++ rest))) : W p l e R s m args below meth c H locs cells slots Qf (F0 m pc ls st0) := by
  intro T hT X
  rcases hr T hT X with ⟨v, st₀, t, T', L, h0, X', hL, e1, e2, ⟨⟨v', hs', hv, hq, hp, hd⟩, hF⟩, st⟩ | ⟨q, st₀, t, T', L, E, ce, h0, X', hL, e1, e2, ⟨⟨hs', hq, -⟩, -⟩, -⟩
  · cases hv
    obtain ⟨k1, k2, k3⟩ := vx_keep h0 e1 hS (fun q _ z => hA1 q z) hA1 hL hF
    obtain ⟨t2, a1, b1⟩ := kk v hs' T'.heap (locs ++ L) (by rw [e1]; exact hq) (by rw [e1]; exact hp) (hd.weaken (fun k q _ z => hA1 _ z)) k3 T' rfl X'
    exact ⟨t2, st t2 a1, b1⟩
  · exact (hX E _ _ hq).elim
theorem sp_callVi {l : Launch} {X : SCR} {M : MT} {pc : Nat} {lv : List (Nat × Value)} {st : List Value} {h : HP} {sz bc bs : Nat} {Q : PST} {z : MT} {bc2 bs2 : Nat} {As : List Value} {b ci idx : Nat} {fs st1 : List Value} (hM : MM l z (.ref b :: As) h sz (fun o h' sz' => ∃ r : Int32, o = .inl (some (.int r)) ∧ SP l X M (pc + 3) lv (.int r :: st) h' sz' bc2 bs2 Q)) (hk : mKd z = 0) (d : decode (mB M) pc = .ok (.invokevirtual idx, 3)) (hb : h b = some (.inr (ci, fs))) (hcl : (vwCl[ci]?).map (fun q => q.1) = some (mN z).cls) (hnp : As.length = mNp z) (hck : CK M z idx) (hsum : (st.map fun v => v.category).sum ≤ 8) (hbc : bc = bc2 + (mRm z).cells) (hbs : bs = bs2 + (mRm z).slots) (hst : st1 = As.reverse ++ .ref b :: st)  : SP l X M pc lv st1 h sz bc bs Q := by
  intro p e s m args below meth c D cA A H locs cells slots ls hs C hh hP hD hS hz hl hc hs2
  obtain ⟨⟨hcw, hnp2, hy1, hy2⟩, hM⟩ := hM
  have hM := hM D cA hs hh
  obtain ⟨hlk, hfr, hlo⟩ := hck
  have hsz2 : ls.size = mL M := hl.1
  have hall : ∀ w ∈ callW z, w.before args s = true := fun w hw => C.2.2.2.2.2.1 w (hcw w hw)
  rw [show callW z = [Cond.instanceMethod (mN z), Cond.selects (mN z).cls (mN z) (mN z), Cond.initialized (mN z).cls, Cond.code (mN z) (mB z) (mL z) (mRt z)] by simp [callW, hk]] at hcw hall
  have hpay : ∀ w ∈ mWs z, ∀ (a' : Array Value) (U : State), s.WarmedH U.vm → w.before a' U = true := by
    intro w hw a' U hW
    rcases List.mem_cons.mp hw with hw | hw
    · subst hw; exact word_at hW (big_good (hcw _ (by simp))) (hall _ (by simp))
    · exact word_at hW (big_good hw) (C.2.2.2.2.2.1 _ hw)
  have hnn : ∀ sig, parseMethodDescriptor (mN z).desc = some sig → mNp z = sig.parameters.length := fun sig hsig => by rw [hsig] at hnp2; exact (Option.some.inj hnp2).symm
  have hpre := Pcm_here C hP hD hS hz (.ref b :: As)
  have hlr : 2 * (F0 m pc ls st1).monitorRoom + (st.map fun v => v.category).sum ≤ 8 := by show 2 * 0 + _ ≤ 8; omega
  obtain ⟨k0, hk0⟩ := hget_at (hs := hs) (by rw [← hh]; exact hb)
  obtain ⟨q9, hq9, hq8⟩ := Option.map_eq_some_iff.mp hcl
  have hrecv := va_recv C.2.2.2.2.2.2.2.2.2.1.1 hP hq9 (cvS_at (cA := cA) hk0)
  rw [hq8] at hrecv
  rcases hlk with hlk | ⟨host, hlk⟩
  · refine sp_fin (vx_runV (As := As) (rest := st) (C := (mN z).cls) (index := idx) ⟨C.1, C.2.1, C.2.2.1, C.2.2.2.2.1, C.2.2.2.2.2.1⟩ hM ⟨⟨rfl, rfl, hfr, hlo, hpay, List.mem_cons_self, hall _ (by simp), hall _ (by simp), ⟨hy1, hy2⟩, hnn, C.2.2.2.2.2.1 _ hlk⟩, hall _ (by simp), hall _ (by simp)⟩ ⟨Pcm_blind, hrecv, hpre⟩ rfl hnp hsz2 hst hlr d ⟨by omega, by omega⟩) hS (va_A_sub hD hS hz C.2.2.2.2.2.2.2.2.2.2.2.1) (fun E h' sz' z => by obtain ⟨v, z, -⟩ := z; cases z) (fun v hs' H1 locs1 hq hP1 hD1 hS1 => ?_)
    obtain ⟨r', hv', kk⟩ := hq
    cases hv'
    exact kk p e s m args below meth c D cA A H1 locs1 (cells + (mRm z).cells) (slots + (mRm z).slots) ls hs' C rfl hP1 hD1 hS1 rfl hl (by omega) (by omega)
  · refine sp_fin (vx_runVN (As := As) (rest := st) (C := (mN z).cls) (index := idx) (host := host) ⟨C.1, C.2.1, C.2.2.1, C.2.2.2.2.1, C.2.2.2.2.2.1⟩ hM ⟨⟨⟨rfl, rfl, hfr, hlo, hpay, List.mem_cons_self⟩, hall _ (by simp), hall _ (by simp), ⟨hy1, hy2⟩, hnn, va_Nw.use rfl (C.2.2.2.2.2.2.2.2.2.1.2.1 _ hlk rfl)⟩, hall _ (by simp), hall _ (by simp)⟩ ⟨Pcm_blind, hrecv, hpre⟩ rfl hnp hsz2 hst hlr d ⟨by omega, by omega⟩) hS (va_A_sub hD hS hz C.2.2.2.2.2.2.2.2.2.2.2.1) (fun E h' sz' z => by obtain ⟨v, z, -⟩ := z; cases z) (fun v hs' H1 locs1 hq hP1 hD1 hS1 => ?_)
    obtain ⟨r', hv', kk⟩ := hq
    cases hv'
    exact kk p e s m args below meth c D cA A H1 locs1 (cells + (mRm z).cells) (slots + (mRm z).slots) ls hs' C rfl hP1 hD1 hS1 rfl hl (by omega) (by omega)
theorem sp_callSi {l : Launch} {X : SCR} {M : MT} {pc : Nat} {lv : List (Nat × Value)} {st : List Value} {h : HP} {sz bc bs : Nat} {Q : PST} {z : MT} {bc2 bs2 : Nat} {As : List Value} {idx : Nat} {st1 : List Value} (hM : MM l z As h sz (fun o h' sz' => ∃ r : Int32, o = .inl (some (.int r)) ∧ SP l X M (pc + 3) lv (.int r :: st) h' sz' bc2 bs2 Q)) (hk : mKd z = 1) (d : decode (mB M) pc = .ok (.invokestatic idx, 3)) (hnp : As.length = mNp z) (hck : CK M z idx) (hsum : (st.map fun v => v.category).sum ≤ 8) (hbc : bc = bc2 + (mRm z).cells) (hbs : bs = bs2 + (mRm z).slots) (hst : st1 = As.reverse ++ st)  : SP l X M pc lv st1 h sz bc bs Q := by
  intro p e s m args below meth c D cA A H locs cells slots ls hs C hh hP hD hS hz hl hc hs2
  obtain ⟨⟨hcw, hnp2, hy1, hy2⟩, hM⟩ := hM
  have hM := hM D cA hs hh
  obtain ⟨hlk, hfr, hlo⟩ := hck
  have hsz2 : ls.size = mL M := hl.1
  have hall : ∀ w ∈ callW z, w.before args s = true := fun w hw => C.2.2.2.2.2.1 w (hcw w hw)
  rw [show callW z = [Cond.static (mN z), Cond.initialized (mN z).cls, Cond.code (mN z) (mB z) (mL z) (mRt z)] by simp [callW, hk]] at hcw hall
  have hpay : ∀ w ∈ mWs z, ∀ (a' : Array Value) (U : State), s.WarmedH U.vm → w.before a' U = true := by
    intro w hw a' U hW
    rcases List.mem_cons.mp hw with hw | hw
    · subst hw; exact word_at hW (big_good (hcw _ (by simp))) (hall _ (by simp))
    · exact word_at hW (big_good hw) (C.2.2.2.2.2.1 _ hw)
  have hnn : ∀ sig, parseMethodDescriptor (mN z).desc = some sig → mNp z = sig.parameters.length := fun sig hsig => by rw [hsig] at hnp2; exact (Option.some.inj hnp2).symm
  have hpre := Pcm_here C hP hD hS hz (As)
  have hlr : 2 * (F0 m pc ls st1).monitorRoom + (st.map fun v => v.category).sum ≤ 8 := by show 2 * 0 + _ ≤ 8; omega
  rcases hlk with hlk | ⟨host, hlk⟩
  · refine sp_fin (vx_runS (As := As) (rest := st) (index := idx) ⟨C.1, C.2.1, C.2.2.1, C.2.2.2.2.1, C.2.2.2.2.2.1⟩ hM ⟨⟨rfl, rfl, hfr, hlo, hpay, List.mem_cons_self, hall _ (by simp), hall _ (by simp), ⟨hy1, hy2⟩, hnn, C.2.2.2.2.2.1 _ hlk⟩, hall _ (by simp)⟩ ⟨Pcm_blind, hpre⟩ rfl hnp hsz2 hst hlr d ⟨by omega, by omega⟩) hS (va_A_sub hD hS hz C.2.2.2.2.2.2.2.2.2.2.2.1) (fun E h' sz' z => by obtain ⟨v, z, -⟩ := z; cases z) (fun v hs' H1 locs1 hq hP1 hD1 hS1 => ?_)
    obtain ⟨r', hv', kk⟩ := hq
    cases hv'
    exact kk p e s m args below meth c D cA A H1 locs1 (cells + (mRm z).cells) (slots + (mRm z).slots) ls hs' C rfl hP1 hD1 hS1 rfl hl (by omega) (by omega)
  · refine sp_fin (vx_runSN (As := As) (rest := st) (index := idx) (host := host) ⟨C.1, C.2.1, C.2.2.1, C.2.2.2.2.1, C.2.2.2.2.2.1⟩ hM ⟨⟨⟨rfl, rfl, hfr, hlo, hpay, List.mem_cons_self⟩, hall _ (by simp), hall _ (by simp), ⟨hy1, hy2⟩, hnn, va_Nw.use rfl (C.2.2.2.2.2.2.2.2.2.1.2.1 _ hlk rfl)⟩, hall _ (by simp), trivial⟩ ⟨Pcm_blind, hpre⟩ rfl hnp hsz2 hst hlr d ⟨by omega, by omega⟩) hS (va_A_sub hD hS hz C.2.2.2.2.2.2.2.2.2.2.2.1) (fun E h' sz' z => by obtain ⟨v, z, -⟩ := z; cases z) (fun v hs' H1 locs1 hq hP1 hD1 hS1 => ?_)
    obtain ⟨r', hv', kk⟩ := hq
    cases hv'
    exact kk p e s m args below meth c D cA A H1 locs1 (cells + (mRm z).cells) (slots + (mRm z).slots) ls hs' C rfl hP1 hD1 hS1 rfl hl (by omega) (by omega)
theorem sp_callVl {l : Launch} {X : SCR} {M : MT} {pc : Nat} {lv : List (Nat × Value)} {st : List Value} {h : HP} {sz bc bs : Nat} {Q : PST} {z : MT} {bc2 bs2 : Nat} {As : List Value} {b ci idx : Nat} {fs st1 : List Value} (hM : MM l z (.ref b :: As) h sz (fun o h' sz' => ∃ r : Int64, o = .inl (some (.long r)) ∧ SP l X M (pc + 3) lv (.long r :: st) h' sz' bc2 bs2 Q)) (hk : mKd z = 0) (d : decode (mB M) pc = .ok (.invokevirtual idx, 3)) (hb : h b = some (.inr (ci, fs))) (hcl : (vwCl[ci]?).map (fun q => q.1) = some (mN z).cls) (hnp : As.length = mNp z) (hck : CK M z idx) (hsum : (st.map fun v => v.category).sum ≤ 8) (hbc : bc = bc2 + (mRm z).cells) (hbs : bs = bs2 + (mRm z).slots) (hst : st1 = As.reverse ++ .ref b :: st)  : SP l X M pc lv st1 h sz bc bs Q := by
  intro p e s m args below meth c D cA A H locs cells slots ls hs C hh hP hD hS hz hl hc hs2
  obtain ⟨⟨hcw, hnp2, hy1, hy2⟩, hM⟩ := hM
  have hM := hM D cA hs hh
  obtain ⟨hlk, hfr, hlo⟩ := hck
  have hsz2 : ls.size = mL M := hl.1
  have hall : ∀ w ∈ callW z, w.before args s = true := fun w hw => C.2.2.2.2.2.1 w (hcw w hw)
  rw [show callW z = [Cond.instanceMethod (mN z), Cond.selects (mN z).cls (mN z) (mN z), Cond.initialized (mN z).cls, Cond.code (mN z) (mB z) (mL z) (mRt z)] by simp [callW, hk]] at hcw hall
  have hpay : ∀ w ∈ mWs z, ∀ (a' : Array Value) (U : State), s.WarmedH U.vm → w.before a' U = true := by
    intro w hw a' U hW
    rcases List.mem_cons.mp hw with hw | hw
    · subst hw; exact word_at hW (big_good (hcw _ (by simp))) (hall _ (by simp))
    · exact word_at hW (big_good hw) (C.2.2.2.2.2.1 _ hw)
  have hnn : ∀ sig, parseMethodDescriptor (mN z).desc = some sig → mNp z = sig.parameters.length := fun sig hsig => by rw [hsig] at hnp2; exact (Option.some.inj hnp2).symm
  have hpre := Pcm_here C hP hD hS hz (.ref b :: As)
  have hlr : 2 * (F0 m pc ls st1).monitorRoom + (st.map fun v => v.category).sum ≤ 8 := by show 2 * 0 + _ ≤ 8; omega
  obtain ⟨k0, hk0⟩ := hget_at (hs := hs) (by rw [← hh]; exact hb)
  obtain ⟨q9, hq9, hq8⟩ := Option.map_eq_some_iff.mp hcl
  have hrecv := va_recv C.2.2.2.2.2.2.2.2.2.1.1 hP hq9 (cvS_at (cA := cA) hk0)
  rw [hq8] at hrecv
  rcases hlk with hlk | ⟨host, hlk⟩
  · refine sp_fin (vx_runV (As := As) (rest := st) (C := (mN z).cls) (index := idx) ⟨C.1, C.2.1, C.2.2.1, C.2.2.2.2.1, C.2.2.2.2.2.1⟩ hM ⟨⟨rfl, rfl, hfr, hlo, hpay, List.mem_cons_self, hall _ (by simp), hall _ (by simp), ⟨hy1, hy2⟩, hnn, C.2.2.2.2.2.1 _ hlk⟩, hall _ (by simp), hall _ (by simp)⟩ ⟨Pcm_blind, hrecv, hpre⟩ rfl hnp hsz2 hst hlr d ⟨by omega, by omega⟩) hS (va_A_sub hD hS hz C.2.2.2.2.2.2.2.2.2.2.2.1) (fun E h' sz' z => by obtain ⟨v, z, -⟩ := z; cases z) (fun v hs' H1 locs1 hq hP1 hD1 hS1 => ?_)
    obtain ⟨r', hv', kk⟩ := hq
    cases hv'
    exact kk p e s m args below meth c D cA A H1 locs1 (cells + (mRm z).cells) (slots + (mRm z).slots) ls hs' C rfl hP1 hD1 hS1 rfl hl (by omega) (by omega)
  · refine sp_fin (vx_runVN (As := As) (rest := st) (C := (mN z).cls) (index := idx) (host := host) ⟨C.1, C.2.1, C.2.2.1, C.2.2.2.2.1, C.2.2.2.2.2.1⟩ hM ⟨⟨⟨rfl, rfl, hfr, hlo, hpay, List.mem_cons_self⟩, hall _ (by simp), hall _ (by simp), ⟨hy1, hy2⟩, hnn, va_Nw.use rfl (C.2.2.2.2.2.2.2.2.2.1.2.1 _ hlk rfl)⟩, hall _ (by simp), hall _ (by simp)⟩ ⟨Pcm_blind, hrecv, hpre⟩ rfl hnp hsz2 hst hlr d ⟨by omega, by omega⟩) hS (va_A_sub hD hS hz C.2.2.2.2.2.2.2.2.2.2.2.1) (fun E h' sz' z => by obtain ⟨v, z, -⟩ := z; cases z) (fun v hs' H1 locs1 hq hP1 hD1 hS1 => ?_)
    obtain ⟨r', hv', kk⟩ := hq
    cases hv'
    exact kk p e s m args below meth c D cA A H1 locs1 (cells + (mRm z).cells) (slots + (mRm z).slots) ls hs' C rfl hP1 hD1 hS1 rfl hl (by omega) (by omega)
theorem sp_callSl {l : Launch} {X : SCR} {M : MT} {pc : Nat} {lv : List (Nat × Value)} {st : List Value} {h : HP} {sz bc bs : Nat} {Q : PST} {z : MT} {bc2 bs2 : Nat} {As : List Value} {idx : Nat} {st1 : List Value} (hM : MM l z As h sz (fun o h' sz' => ∃ r : Int64, o = .inl (some (.long r)) ∧ SP l X M (pc + 3) lv (.long r :: st) h' sz' bc2 bs2 Q)) (hk : mKd z = 1) (d : decode (mB M) pc = .ok (.invokestatic idx, 3)) (hnp : As.length = mNp z) (hck : CK M z idx) (hsum : (st.map fun v => v.category).sum ≤ 8) (hbc : bc = bc2 + (mRm z).cells) (hbs : bs = bs2 + (mRm z).slots) (hst : st1 = As.reverse ++ st)  : SP l X M pc lv st1 h sz bc bs Q := by
  intro p e s m args below meth c D cA A H locs cells slots ls hs C hh hP hD hS hz hl hc hs2
  obtain ⟨⟨hcw, hnp2, hy1, hy2⟩, hM⟩ := hM
  have hM := hM D cA hs hh
  obtain ⟨hlk, hfr, hlo⟩ := hck
  have hsz2 : ls.size = mL M := hl.1
  have hall : ∀ w ∈ callW z, w.before args s = true := fun w hw => C.2.2.2.2.2.1 w (hcw w hw)
  rw [show callW z = [Cond.static (mN z), Cond.initialized (mN z).cls, Cond.code (mN z) (mB z) (mL z) (mRt z)] by simp [callW, hk]] at hcw hall
  have hpay : ∀ w ∈ mWs z, ∀ (a' : Array Value) (U : State), s.WarmedH U.vm → w.before a' U = true := by
    intro w hw a' U hW
    rcases List.mem_cons.mp hw with hw | hw
    · subst hw; exact word_at hW (big_good (hcw _ (by simp))) (hall _ (by simp))
    · exact word_at hW (big_good hw) (C.2.2.2.2.2.1 _ hw)
  have hnn : ∀ sig, parseMethodDescriptor (mN z).desc = some sig → mNp z = sig.parameters.length := fun sig hsig => by rw [hsig] at hnp2; exact (Option.some.inj hnp2).symm
  have hpre := Pcm_here C hP hD hS hz (As)
  have hlr : 2 * (F0 m pc ls st1).monitorRoom + (st.map fun v => v.category).sum ≤ 8 := by show 2 * 0 + _ ≤ 8; omega
  rcases hlk with hlk | ⟨host, hlk⟩
  · refine sp_fin (vx_runS (As := As) (rest := st) (index := idx) ⟨C.1, C.2.1, C.2.2.1, C.2.2.2.2.1, C.2.2.2.2.2.1⟩ hM ⟨⟨rfl, rfl, hfr, hlo, hpay, List.mem_cons_self, hall _ (by simp), hall _ (by simp), ⟨hy1, hy2⟩, hnn, C.2.2.2.2.2.1 _ hlk⟩, hall _ (by simp)⟩ ⟨Pcm_blind, hpre⟩ rfl hnp hsz2 hst hlr d ⟨by omega, by omega⟩) hS (va_A_sub hD hS hz C.2.2.2.2.2.2.2.2.2.2.2.1) (fun E h' sz' z => by obtain ⟨v, z, -⟩ := z; cases z) (fun v hs' H1 locs1 hq hP1 hD1 hS1 => ?_)
    obtain ⟨r', hv', kk⟩ := hq
    cases hv'
    exact kk p e s m args below meth c D cA A H1 locs1 (cells + (mRm z).cells) (slots + (mRm z).slots) ls hs' C rfl hP1 hD1 hS1 rfl hl (by omega) (by omega)
  · refine sp_fin (vx_runSN (As := As) (rest := st) (index := idx) (host := host) ⟨C.1, C.2.1, C.2.2.1, C.2.2.2.2.1, C.2.2.2.2.2.1⟩ hM ⟨⟨⟨rfl, rfl, hfr, hlo, hpay, List.mem_cons_self⟩, hall _ (by simp), hall _ (by simp), ⟨hy1, hy2⟩, hnn, va_Nw.use rfl (C.2.2.2.2.2.2.2.2.2.1.2.1 _ hlk rfl)⟩, hall _ (by simp), trivial⟩ ⟨Pcm_blind, hpre⟩ rfl hnp hsz2 hst hlr d ⟨by omega, by omega⟩) hS (va_A_sub hD hS hz C.2.2.2.2.2.2.2.2.2.2.2.1) (fun E h' sz' z => by obtain ⟨v, z, -⟩ := z; cases z) (fun v hs' H1 locs1 hq hP1 hD1 hS1 => ?_)
    obtain ⟨r', hv', kk⟩ := hq
    cases hv'
    exact kk p e s m args below meth c D cA A H1 locs1 (cells + (mRm z).cells) (slots + (mRm z).slots) ls hs' C rfl hP1 hD1 hS1 rfl hl (by omega) (by omega)
theorem sp_callVv {l : Launch} {X : SCR} {M : MT} {pc : Nat} {lv : List (Nat × Value)} {st : List Value} {h : HP} {sz bc bs : Nat} {Q : PST} {z : MT} {bc2 bs2 : Nat} {As : List Value} {b ci idx : Nat} {fs st1 : List Value} (hM : MM l z (.ref b :: As) h sz (fun o h' sz' => ∃ r : Unit, o = .inl (none) ∧ SP l X M (pc + 3) lv st h' sz' bc2 bs2 Q)) (hk : mKd z = 0) (d : decode (mB M) pc = .ok (.invokevirtual idx, 3)) (hb : h b = some (.inr (ci, fs))) (hcl : (vwCl[ci]?).map (fun q => q.1) = some (mN z).cls) (hnp : As.length = mNp z) (hck : CK M z idx) (hsum : (st.map fun v => v.category).sum ≤ 8) (hbc : bc = bc2 + (mRm z).cells) (hbs : bs = bs2 + (mRm z).slots) (hst : st1 = As.reverse ++ .ref b :: st)  : SP l X M pc lv st1 h sz bc bs Q := by
  intro p e s m args below meth c D cA A H locs cells slots ls hs C hh hP hD hS hz hl hc hs2
  obtain ⟨⟨hcw, hnp2, hy1, hy2⟩, hM⟩ := hM
  have hM := hM D cA hs hh
  obtain ⟨hlk, hfr, hlo⟩ := hck
  have hsz2 : ls.size = mL M := hl.1
  have hall : ∀ w ∈ callW z, w.before args s = true := fun w hw => C.2.2.2.2.2.1 w (hcw w hw)
  rw [show callW z = [Cond.instanceMethod (mN z), Cond.selects (mN z).cls (mN z) (mN z), Cond.initialized (mN z).cls, Cond.code (mN z) (mB z) (mL z) (mRt z)] by simp [callW, hk]] at hcw hall
  have hpay : ∀ w ∈ mWs z, ∀ (a' : Array Value) (U : State), s.WarmedH U.vm → w.before a' U = true := by
    intro w hw a' U hW
    rcases List.mem_cons.mp hw with hw | hw
    · subst hw; exact word_at hW (big_good (hcw _ (by simp))) (hall _ (by simp))
    · exact word_at hW (big_good hw) (C.2.2.2.2.2.1 _ hw)
  have hnn : ∀ sig, parseMethodDescriptor (mN z).desc = some sig → mNp z = sig.parameters.length := fun sig hsig => by rw [hsig] at hnp2; exact (Option.some.inj hnp2).symm
  have hpre := Pcm_here C hP hD hS hz (.ref b :: As)
  have hlr : 2 * (F0 m pc ls st1).monitorRoom + (st.map fun v => v.category).sum ≤ 8 := by show 2 * 0 + _ ≤ 8; omega
  obtain ⟨k0, hk0⟩ := hget_at (hs := hs) (by rw [← hh]; exact hb)
  obtain ⟨q9, hq9, hq8⟩ := Option.map_eq_some_iff.mp hcl
  have hrecv := va_recv C.2.2.2.2.2.2.2.2.2.1.1 hP hq9 (cvS_at (cA := cA) hk0)
  rw [hq8] at hrecv
  rcases hlk with hlk | ⟨host, hlk⟩
  · refine sp_fin (vx_runV (As := As) (rest := st) (C := (mN z).cls) (index := idx) ⟨C.1, C.2.1, C.2.2.1, C.2.2.2.2.1, C.2.2.2.2.2.1⟩ hM ⟨⟨rfl, rfl, hfr, hlo, hpay, List.mem_cons_self, hall _ (by simp), hall _ (by simp), ⟨hy1, hy2⟩, hnn, C.2.2.2.2.2.1 _ hlk⟩, hall _ (by simp), hall _ (by simp)⟩ ⟨Pcm_blind, hrecv, hpre⟩ rfl hnp hsz2 hst hlr d ⟨by omega, by omega⟩) hS (va_A_sub hD hS hz C.2.2.2.2.2.2.2.2.2.2.2.1) (fun E h' sz' z => by obtain ⟨v, z, -⟩ := z; cases z) (fun v hs' H1 locs1 hq hP1 hD1 hS1 => ?_)
    obtain ⟨r', hv', kk⟩ := hq
    cases hv'
    exact kk p e s m args below meth c D cA A H1 locs1 (cells + (mRm z).cells) (slots + (mRm z).slots) ls hs' C rfl hP1 hD1 hS1 rfl hl (by omega) (by omega)
  · refine sp_fin (vx_runVN (As := As) (rest := st) (C := (mN z).cls) (index := idx) (host := host) ⟨C.1, C.2.1, C.2.2.1, C.2.2.2.2.1, C.2.2.2.2.2.1⟩ hM ⟨⟨⟨rfl, rfl, hfr, hlo, hpay, List.mem_cons_self⟩, hall _ (by simp), hall _ (by simp), ⟨hy1, hy2⟩, hnn, va_Nw.use rfl (C.2.2.2.2.2.2.2.2.2.1.2.1 _ hlk rfl)⟩, hall _ (by simp), hall _ (by simp)⟩ ⟨Pcm_blind, hrecv, hpre⟩ rfl hnp hsz2 hst hlr d ⟨by omega, by omega⟩) hS (va_A_sub hD hS hz C.2.2.2.2.2.2.2.2.2.2.2.1) (fun E h' sz' z => by obtain ⟨v, z, -⟩ := z; cases z) (fun v hs' H1 locs1 hq hP1 hD1 hS1 => ?_)
    obtain ⟨r', hv', kk⟩ := hq
    cases hv'
    exact kk p e s m args below meth c D cA A H1 locs1 (cells + (mRm z).cells) (slots + (mRm z).slots) ls hs' C rfl hP1 hD1 hS1 rfl hl (by omega) (by omega)
theorem sp_callSv {l : Launch} {X : SCR} {M : MT} {pc : Nat} {lv : List (Nat × Value)} {st : List Value} {h : HP} {sz bc bs : Nat} {Q : PST} {z : MT} {bc2 bs2 : Nat} {As : List Value} {idx : Nat} {st1 : List Value} (hM : MM l z As h sz (fun o h' sz' => ∃ r : Unit, o = .inl (none) ∧ SP l X M (pc + 3) lv st h' sz' bc2 bs2 Q)) (hk : mKd z = 1) (d : decode (mB M) pc = .ok (.invokestatic idx, 3)) (hnp : As.length = mNp z) (hck : CK M z idx) (hsum : (st.map fun v => v.category).sum ≤ 8) (hbc : bc = bc2 + (mRm z).cells) (hbs : bs = bs2 + (mRm z).slots) (hst : st1 = As.reverse ++ st)  : SP l X M pc lv st1 h sz bc bs Q := by
  intro p e s m args below meth c D cA A H locs cells slots ls hs C hh hP hD hS hz hl hc hs2
  obtain ⟨⟨hcw, hnp2, hy1, hy2⟩, hM⟩ := hM
  have hM := hM D cA hs hh
  obtain ⟨hlk, hfr, hlo⟩ := hck
  have hsz2 : ls.size = mL M := hl.1
  have hall : ∀ w ∈ callW z, w.before args s = true := fun w hw => C.2.2.2.2.2.1 w (hcw w hw)
  rw [show callW z = [Cond.static (mN z), Cond.initialized (mN z).cls, Cond.code (mN z) (mB z) (mL z) (mRt z)] by simp [callW, hk]] at hcw hall
  have hpay : ∀ w ∈ mWs z, ∀ (a' : Array Value) (U : State), s.WarmedH U.vm → w.before a' U = true := by
    intro w hw a' U hW
    rcases List.mem_cons.mp hw with hw | hw
    · subst hw; exact word_at hW (big_good (hcw _ (by simp))) (hall _ (by simp))
    · exact word_at hW (big_good hw) (C.2.2.2.2.2.1 _ hw)
  have hnn : ∀ sig, parseMethodDescriptor (mN z).desc = some sig → mNp z = sig.parameters.length := fun sig hsig => by rw [hsig] at hnp2; exact (Option.some.inj hnp2).symm
  have hpre := Pcm_here C hP hD hS hz (As)
  have hlr : 2 * (F0 m pc ls st1).monitorRoom + (st.map fun v => v.category).sum ≤ 8 := by show 2 * 0 + _ ≤ 8; omega
  rcases hlk with hlk | ⟨host, hlk⟩
  · refine sp_fin (vx_runS (As := As) (rest := st) (index := idx) ⟨C.1, C.2.1, C.2.2.1, C.2.2.2.2.1, C.2.2.2.2.2.1⟩ hM ⟨⟨rfl, rfl, hfr, hlo, hpay, List.mem_cons_self, hall _ (by simp), hall _ (by simp), ⟨hy1, hy2⟩, hnn, C.2.2.2.2.2.1 _ hlk⟩, hall _ (by simp)⟩ ⟨Pcm_blind, hpre⟩ rfl hnp hsz2 hst hlr d ⟨by omega, by omega⟩) hS (va_A_sub hD hS hz C.2.2.2.2.2.2.2.2.2.2.2.1) (fun E h' sz' z => by obtain ⟨v, z, -⟩ := z; cases z) (fun v hs' H1 locs1 hq hP1 hD1 hS1 => ?_)
    obtain ⟨r', hv', kk⟩ := hq
    cases hv'
    exact kk p e s m args below meth c D cA A H1 locs1 (cells + (mRm z).cells) (slots + (mRm z).slots) ls hs' C rfl hP1 hD1 hS1 rfl hl (by omega) (by omega)
  · refine sp_fin (vx_runSN (As := As) (rest := st) (index := idx) (host := host) ⟨C.1, C.2.1, C.2.2.1, C.2.2.2.2.1, C.2.2.2.2.2.1⟩ hM ⟨⟨⟨rfl, rfl, hfr, hlo, hpay, List.mem_cons_self⟩, hall _ (by simp), hall _ (by simp), ⟨hy1, hy2⟩, hnn, va_Nw.use rfl (C.2.2.2.2.2.2.2.2.2.1.2.1 _ hlk rfl)⟩, hall _ (by simp), trivial⟩ ⟨Pcm_blind, hpre⟩ rfl hnp hsz2 hst hlr d ⟨by omega, by omega⟩) hS (va_A_sub hD hS hz C.2.2.2.2.2.2.2.2.2.2.2.1) (fun E h' sz' z => by obtain ⟨v, z, -⟩ := z; cases z) (fun v hs' H1 locs1 hq hP1 hD1 hS1 => ?_)
    obtain ⟨r', hv', kk⟩ := hq
    cases hv'
    exact kk p e s m args below meth c D cA A H1 locs1 (cells + (mRm z).cells) (slots + (mRm z).slots) ls hs' C rfl hP1 hD1 hS1 rfl hl (by omega) (by omega)
theorem sp_callIv {l : Launch} {X : SCR} {M : MT} {pc : Nat} {lv : List (Nat × Value)} {st : List Value} {h : HP} {sz bc bs : Nat} {Q : PST} {z : MT} {bc2 bs2 : Nat} {As : List Value} {b idx : Nat} {st1 : List Value} (hM : MM l z (.ref b :: As) h sz (fun o h' sz' => ∃ r : Unit, o = .inl (none) ∧ SP l X M (pc + 3) lv st h' sz' bc2 bs2 Q)) (hk : mKd z = 2) (hrt : mRt z = none) (hnm : (mN z).name = "<init>") (d : decode (mB M) pc = .ok (.invokespecial idx, 3)) (hnp : As.length = mNp z) (hck : CK M z idx) (hsum : (st.map fun v => v.category).sum ≤ 8) (hbc : bc = bc2 + (mRm z).cells) (hbs : bs = bs2 + (mRm z).slots) (hst : st1 = As.reverse ++ .ref b :: st)  : SP l X M pc lv st1 h sz bc bs Q := by
  intro p e s m args below meth c D cA A H locs cells slots ls hs C hh hP hD hS hz hl hc hs2
  obtain ⟨⟨hcw, hnp2, hy1, hy2⟩, hM⟩ := hM
  have hM := hM D cA hs hh
  obtain ⟨hlk, hfr, hlo⟩ := hck
  have hsz2 : ls.size = mL M := hl.1
  have hall : ∀ w ∈ callW z, w.before args s = true := fun w hw => C.2.2.2.2.2.1 w (hcw w hw)
  rw [show callW z = [Cond.instanceMethod (mN z), Cond.initialized (mN z).cls, Cond.code (mN z) (mB z) (mL z) (mRt z)] by simp [callW, hk]] at hcw hall
  have hpay : ∀ w ∈ mWs z, ∀ (a' : Array Value) (U : State), s.WarmedH U.vm → w.before a' U = true := by
    intro w hw a' U hW
    rcases List.mem_cons.mp hw with hw | hw
    · subst hw; exact word_at hW (big_good (hcw _ (by simp))) (hall _ (by simp))
    · exact word_at hW (big_good hw) (C.2.2.2.2.2.1 _ hw)
  have hnn : ∀ sig, parseMethodDescriptor (mN z).desc = some sig → mNp z = sig.parameters.length := fun sig hsig => by rw [hsig] at hnp2; exact (Option.some.inj hnp2).symm
  have hpre := Pcm_here C hP hD hS hz (.ref b :: As)
  have hlr : 2 * (F0 m pc ls st1).monitorRoom + (st.map fun v => v.category).sum ≤ 8 := by show 2 * 0 + _ ≤ 8; omega
  rw [hrt] at hall hcw
  have hcd : Cond.code (mN z) (mB z) (mL z) none ∈ mWs z := by rw [← hrt]; exact List.mem_cons_self
  rcases hlk with hlk | ⟨host, hlk⟩
  · refine sp_fin (vx_runI (As := As) (rest := st) (index := idx) (bytes := mB z) (maxL := mL z) ⟨C.1, C.2.1, C.2.2.1, C.2.2.2.2.1, C.2.2.2.2.2.1⟩ hM ⟨⟨rfl, rfl, hfr, hlo, hpay, hcd, hall _ (by simp), hall _ (by simp), ⟨hy1, hy2⟩, hnn, C.2.2.2.2.2.1 _ hlk⟩, hnm, hall _ (by simp)⟩ ⟨Pcm_blind, hpre⟩ rfl hnp hsz2 hst hlr d ⟨by omega, by omega⟩) hS (va_A_sub hD hS hz C.2.2.2.2.2.2.2.2.2.2.2.1) (fun E h' sz' z => by obtain ⟨v, z, -⟩ := z; cases z) (fun v hs' H1 locs1 hq hP1 hD1 hS1 => ?_)
    obtain ⟨r', hv', kk⟩ := hq
    cases hv'
    exact kk p e s m args below meth c D cA A H1 locs1 (cells + (mRm z).cells) (slots + (mRm z).slots) ls hs' C rfl hP1 hD1 hS1 rfl hl (by omega) (by omega)
  · refine sp_fin (vx_runIN (As := As) (rest := st) (index := idx) (host := host) (bytes := mB z) (maxL := mL z) ⟨C.1, C.2.1, C.2.2.1, C.2.2.2.2.1, C.2.2.2.2.2.1⟩ hM ⟨⟨⟨rfl, rfl, hfr, hlo, hpay, hcd⟩, hall _ (by simp), hall _ (by simp), ⟨hy1, hy2⟩, hnn, va_Nw.use rfl (C.2.2.2.2.2.2.2.2.2.1.2.1 _ hlk rfl)⟩, hnm, hall _ (by simp)⟩ ⟨Pcm_blind, hpre⟩ rfl hnp hsz2 hst hlr d ⟨by omega, by omega⟩) hS (va_A_sub hD hS hz C.2.2.2.2.2.2.2.2.2.2.2.1) (fun E h' sz' z => by obtain ⟨v, z, -⟩ := z; cases z) (fun v hs' H1 locs1 hq hP1 hD1 hS1 => ?_)
    obtain ⟨r', hv', kk⟩ := hq
    cases hv'
    exact kk p e s m args below meth c D cA A H1 locs1 (cells + (mRm z).cells) (slots + (mRm z).slots) ls hs' C rfl hP1 hD1 hS1 rfl hl (by omega) (by omega)
def mWsW (M : MT) (hh : List (Nat × Nat × Nat × Nat)) : List Cond := Cond.codeWith (mN M) (mB M) (mL M) (mRt M) hh :: BIG
def wokW (M : MT) (hh : List (Nat × Nat × Nat × Nat)) : Prop := (∀ w ∈ [Cond.static (mN M), Cond.initialized (mN M).cls, Cond.codeWith (mN M) (mB M) (mL M) (mRt M) hh], w ∈ BIG) ∧ (parseMethodDescriptor (mN M).desc).map (fun d => d.parameters.length) = some (mNp M) ∧ (mN M).cls ≠ "java/lang/invoke/MethodHandle" ∧ (mN M).cls ≠ "java/lang/invoke/VarHandle"
def MMW (l : Launch) (M : MT) (hh : List (Nat × Nat × Nat × Nat)) (args : List Value) (h : HP) (sz : Nat) (Q : PST) : Prop :=
  wokW M hh ∧ ∀ (D : va_G) (cA : Nat → ClassId) (hs : HS), h = hget hs → vx_Met l (mN M) (mWsW M hh) (mRm M) (Pcm D cA args hs sz) (Qcm D cA (va_A (cvS cA hs) sz) Q) (Xcm D cA (va_A (cvS cA hs) sz) Q) (mRm M).cells (mRm M).slots (va_A (cvS cA hs) sz)
theorem MMW_of {l : Launch} {M : MT} {hh : List (Nat × Nat × Nat × Nat)} (hw : wokW M hh) (hp : plainName (mN M).cls = true) {args : List Value} {h : HP} {sz : Nat} {Q : PST} (hlen : (lg_sl args).length ≤ mL M)
    (k : SP l (none, some hh) M 0 (lv_args 0 args) [] h sz (mRm M).cells (mRm M).slots Q) : MMW l M hh args h sz Q := by
  refine ⟨hw, fun D cA hs hh2 => ?_⟩
  refine vx_ofWH (cc := mB M) (maxL := mL M) (ret := mRt M) (hh := hh) hp rfl ?_
  intro p e s m as below meth c s₁ B hml hv
  obtain ⟨rfl, hsz, hP, hD0, hK, hT⟩ := hv
  have hts := atoms_spec (ws := mWsW M hh) B.pre
  have ht := vx_table (x := mN M) B (hts _ List.mem_cons_self)
  have hD := va_A_D (sz := sz) hD0
  have hl := lv_entry args (n := mL M) hlen
  rw [lg_entry_eq]
  refine k p e s m _ below meth c D cA _ s.heap [] 0 0 _ hs ⟨B.exec, B.bytes, hml, B.returns, findClass_of_methodNamed B.named, fun w hw => hts w (List.mem_cons_of_mem _ hw), B.notSynchronized, fun hi => (name_of_methodNamed B.named B.method).1.trans hi, fun h2 hx => (by cases hx; exact ht), hK, hT, fun q hq => Or.inr (by omega), fun b L xs hX => by cases hX⟩ hh2 hP hD va_S.rf hsz hl (by omega) (by omega)
def HD (own : String) (hh : List (Nat × Nat × Nat × Nat)) (pc : Nat) (E : String) (hpc : Nat) : Prop := ∃ (pre : List (Nat × Nat × Nat × Nat)) (x : Nat × Nat × Nat × Nat) (suf : List (Nat × Nat × Nat × Nat)) (name : String), hh = pre ++ x :: suf ∧ (∀ z ∈ pre, z.2.2.2 ≠ 0 ∧ ∃ nm, Cond.classLink own z.2.2.2 nm ∈ BIG ∧ (E, nm) ∈ ncL) ∧ covers ⟨x.1, x.2.1, x.2.2.1, x.2.2.2⟩ pc = true ∧ x.2.2.2 ≠ 0 ∧ Cond.classLink own x.2.2.2 name ∈ BIG ∧ Cond.castable E name ∈ lw_tbl ∧ hpc = x.2.2.1
theorem sp_finX {p : Program} {l : Launch} {e : Env} {R : Room} {s : State} {m : MethodId} {args : Array Value} {below : List Frame} {meth : Method} {c : Code} {H : Heap} {locs : List Loc} {cells slots mc ms pc : Nat} {Qf : State → Prop} {ls : Array Slot} {st0 rest : List Value} {D : va_G} {cA : Nat → ClassId} {A A1 : Nat → Prop} {Q' : PST} {a : Array Value}
    (hr : vx_Run p l e R s m args below meth c H locs cells slots mc ms (F0 m pc ls st0) rest (Qcm D cA A1 Q' a) (Xcm D cA A1 Q') A1) (hS : va_S A s.heap H locs) (hA1 : ∀ q, A1 q → A q)
    (kx : ∀ (E : String) (q : Addr) (ce : Cell) (hs' : HS) (H1 : Heap) (locs1 : List Loc), Q' (.inr E) (hget hs') H1.size → va_P D vwCl (cvS cA hs') H1 → va_D A (cvS cA hs') → va_S A s.heap H1 locs1 → H1[q]? = some ce → ce.vm = .none → s.vm.findClass E = some ce.cls → vx_W p l e R s m args below meth c H1 locs1 (cells + mc) (slots + ms) Qf (F0 m pc ls rest) q)
    (kk : ∀ (v : Option Value) (hs' : HS) (H1 : Heap) (locs1 : List Loc), Q' (.inl v) (hget hs') H1.size → va_P D vwCl (cvS cA hs') H1 → va_D A (cvS cA hs') → va_S A s.heap H1 locs1 → W p l e R s m args below meth c H1 locs1 (cells + mc) (slots + ms) Qf (F0 m (pc + 3) ls (v.toList ++ rest))) : W p l e R s m args below meth c H locs cells slots Qf (F0 m pc ls st0) := by
  intro T hT X
  rcases hr T hT X with ⟨v, st₀, t, T', L, h0, X', hL, e1, e2, ⟨⟨v', hs', hv, hq, hp, hd⟩, hF⟩, st⟩ | ⟨q, st₀, t, T', L, E, ce, h0, X', hL, e1, e2, ⟨⟨hs', hq, hp, hd⟩, hF⟩, hce, hcv, hcl, st⟩
  · cases hv
    obtain ⟨k1, k2, k3⟩ := vx_keep h0 e1 hS (fun q _ z => hA1 q z) hA1 hL hF
    obtain ⟨t2, a1, b1⟩ := kk v hs' T'.heap (locs ++ L) (by rw [e1]; exact hq) (by rw [e1]; exact hp) (hd.weaken (fun k q _ z => hA1 _ z)) k3 T' rfl X'
    exact ⟨t2, st t2 a1, b1⟩
  · obtain ⟨k1, k2, k3⟩ := vx_keep h0 e1 hS (fun q _ z => hA1 q z) hA1 hL hF
    obtain ⟨t2, a1, b1⟩ := kx E q ce hs' T'.heap (locs ++ L) (by rw [e1]; exact hq) (by rw [e1]; exact hp) (hd.weaken (fun k q _ z => hA1 _ z)) k3 (by rw [e1]; exact hce) hcv hcl T' rfl X'
    exact ⟨t2, st.trans a1, b1⟩
theorem sp_callT {l : Launch} {X : SCR} {M : MT} {pc : Nat} {lv : List (Nat × Value)} {st : List Value} {h : HP} {sz bc bs : Nat} {Q : PST} {hh9 : List (Nat × Nat × Nat × Nat)} {z : MT} {bc2 bs2 : Nat} {As : List Value} {b ci idx : Nat} {fs st1 : List Value} (hM : MM l z (.ref b :: As) h sz (fun o h' sz' => (∃ r : Int32, o = .inl (some (.int r)) ∧ SP l X M (pc + 3) lv (.int r :: st) h' sz' bc2 bs2 Q) ∨ ∃ (E : String) (hpc : Nat), o = .inr E ∧ HD (mN M).cls hh9 pc E hpc ∧ ∀ q : Nat, SP l X M hpc lv [.ref q] h' sz' bc2 bs2 Q)) (hX : X.2 = some hh9) (hk : mKd z = 0) (d : decode (mB M) pc = .ok (.invokevirtual idx, 3)) (hb : h b = some (.inr (ci, fs))) (hcl9 : (vwCl[ci]?).map (fun q => q.1) = some (mN z).cls) (hnp : As.length = mNp z) (hlk9 : Cond.methodLink (mN M).cls idx (mN z) ∈ BIG) (hck : CK M z idx) (hsum : (st.map fun v => v.category).sum ≤ 8) (hbc : bc = bc2 + (mRm z).cells) (hbs : bs = bs2 + (mRm z).slots) (hst : st1 = As.reverse ++ .ref b :: st)  : SP l X M pc lv st1 h sz bc bs Q := by
  intro p e s m args below meth c D cA A H locs cells slots ls hs C hh hP hD hS hz hl hc hs2
  obtain ⟨⟨hcw, hnp2, hy1, hy2⟩, hM⟩ := hM
  have hM := hM D cA hs hh
  obtain ⟨hlk, hfr, hlo⟩ := hck
  have hsz2 : ls.size = mL M := hl.1
  have hall : ∀ w ∈ callW z, w.before args s = true := fun w hw => C.2.2.2.2.2.1 w (hcw w hw)
  rw [show callW z = [Cond.instanceMethod (mN z), Cond.selects (mN z).cls (mN z) (mN z), Cond.initialized (mN z).cls, Cond.code (mN z) (mB z) (mL z) (mRt z)] by simp [callW, hk]] at hcw hall
  have hpay : ∀ w ∈ mWs z, ∀ (a' : Array Value) (U : State), s.WarmedH U.vm → w.before a' U = true := by
    intro w hw a' U hW
    rcases List.mem_cons.mp hw with hw | hw
    · subst hw; exact word_at hW (big_good (hcw _ (by simp))) (hall _ (by simp))
    · exact word_at hW (big_good hw) (C.2.2.2.2.2.1 _ hw)
  have hnn : ∀ sig, parseMethodDescriptor (mN z).desc = some sig → mNp z = sig.parameters.length := fun sig hsig => by rw [hsig] at hnp2; exact (Option.some.inj hnp2).symm
  have hpre := Pcm_here C hP hD hS hz (.ref b :: As)
  have hlr : 2 * (F0 m pc ls st1).monitorRoom + (st.map fun v => v.category).sum ≤ 8 := by show 2 * 0 + _ ≤ 8; omega
  obtain ⟨k0, hk0⟩ := hget_at (hs := hs) (by rw [← hh]; exact hb)
  obtain ⟨q9, hq9, hq8⟩ := Option.map_eq_some_iff.mp hcl9
  have hrecv := va_recv C.2.2.2.2.2.2.2.2.2.1.1 hP hq9 (cvS_at (cA := cA) hk0)
  rw [hq8] at hrecv
  refine sp_finX (vx_runV (As := As) (rest := st) (C := (mN z).cls) (index := idx) ⟨C.1, C.2.1, C.2.2.1, C.2.2.2.2.1, C.2.2.2.2.2.1⟩ hM ⟨⟨rfl, rfl, hfr, hlo, hpay, List.mem_cons_self, hall _ (by simp), hall _ (by simp), ⟨hy1, hy2⟩, hnn, C.2.2.2.2.2.1 _ hlk9⟩, hall _ (by simp), hall _ (by simp)⟩ ⟨Pcm_blind, hrecv, hpre⟩ rfl hnp hsz2 hst hlr d ⟨by omega, by omega⟩) hS (va_A_sub hD hS hz C.2.2.2.2.2.2.2.2.2.2.2.1) (fun E q ce hs' H1 locs1 hq hP1 hD1 hS1 hce hcv hcl => ?_) (fun v hs' H1 locs1 hq hP1 hD1 hS1 => ?_)
  · rcases hq with ⟨r, hr, -⟩ | ⟨E', hpc, hE, ⟨pre, x, suf, name, g1, g2, g3, g4, g5, g6, g7⟩, kk⟩
    · cases hr
    · cases hE
      have htb := C.2.2.2.2.2.2.2.2.1 _ hX
      subst g7
      refine vx_catch C.2.2.2.2.1 (tableOf pre) ⟨x.1, x.2.1, x.2.2.1, x.2.2.2⟩ (tableOf suf) (by rw [htb, g1]; simp [tableOf]) (fun y hy => ?_) g3 g4 (C.2.2.2.2.2.1 _ g5) (va_Nw.use rfl (C.2.2.2.2.2.2.2.2.2.1.2.1 _ g6 rfl)) hce hcv hcl (kk q p e s m args below meth c D cA A H1 locs1 (cells + (mRm z).cells) (slots + (mRm z).slots) ls hs' C rfl hP1 hD1 hS1 rfl hl (by omega) (by omega))
      obtain ⟨z9, hz9, rfl⟩ := List.mem_map.mp hy
      obtain ⟨n1, nm, n2, n3⟩ := g2 z9 hz9
      exact Or.inr ⟨n1, nm, C.2.2.2.2.2.1 _ n2, C.2.2.2.2.2.2.2.2.2.1.2.2.2.2 _ n3⟩
  · rcases hq with ⟨r, hr, kk⟩ | ⟨E', hpc, hE, -⟩
    · cases hr
      exact kk p e s m args below meth c D cA A H1 locs1 (cells + (mRm z).cells) (slots + (mRm z).slots) ls hs' C rfl hP1 hD1 hS1 rfl hl (by omega) (by omega)
    · cases hE
theorem sp_callW {l : Launch} {X : SCR} {M : MT} {pc : Nat} {lv : List (Nat × Value)} {st : List Value} {h : HP} {sz bc bs : Nat} {Q : PST} {hh9 : List (Nat × Nat × Nat × Nat)} {z : MT} {bc2 bs2 : Nat} {As : List Value} {idx : Nat} {st1 : List Value} (hM : MMW l z hh9 As h sz (fun o h' sz' => ∃ r : Int32, o = .inl (some (.int r)) ∧ SP l X M (pc + 3) lv (.int r :: st) h' sz' bc2 bs2 Q)) (d : decode (mB M) pc = .ok (.invokestatic idx, 3)) (hnp : As.length = mNp z) (hlk9 : Cond.methodLink (mN M).cls idx (mN z) ∈ BIG) (hck : CK M z idx) (hsum : (st.map fun v => v.category).sum ≤ 8) (hbc : bc = bc2 + (mRm z).cells) (hbs : bs = bs2 + (mRm z).slots) (hst : st1 = As.reverse ++ st)  : SP l X M pc lv st1 h sz bc bs Q := by
  intro p e s m args below meth c D cA A H locs cells slots ls hs C hh hP hD hS hz hl hc hs2
  obtain ⟨⟨hcw, hnp2, hy1, hy2⟩, hM⟩ := hM
  have hM := hM D cA hs hh
  obtain ⟨-, hfr, hlo⟩ := hck
  have hsz2 : ls.size = mL M := hl.1
  have hall : ∀ w ∈ [Cond.static (mN z), Cond.initialized (mN z).cls, Cond.codeWith (mN z) (mB z) (mL z) (mRt z) hh9], w.before args s = true := fun w hw => C.2.2.2.2.2.1 w (hcw w hw)
  have hpay : ∀ w ∈ mWsW z hh9, ∀ (a' : Array Value) (U : State), s.WarmedH U.vm → w.before a' U = true := by
    intro w hw a' U hW
    rcases List.mem_cons.mp hw with hw | hw
    · subst hw; exact word_at hW (big_good (hcw _ (by simp))) (hall _ (by simp))
    · exact word_at hW (big_good hw) (C.2.2.2.2.2.1 _ hw)
  have hnn : ∀ sig, parseMethodDescriptor (mN z).desc = some sig → mNp z = sig.parameters.length := fun sig hsig => by rw [hsig] at hnp2; exact (Option.some.inj hnp2).symm
  have hpre := Pcm_here C hP hD hS hz As
  have hlr : 2 * (F0 m pc ls st1).monitorRoom + (st.map fun v => v.category).sum ≤ 8 := by show 2 * 0 + _ ≤ 8; omega
  refine sp_fin (vx_runSX (As := As) (rest := st) (index := idx) (hh := hh9) ⟨C.1, C.2.1, C.2.2.1, C.2.2.2.2.1, C.2.2.2.2.2.1⟩ hM ⟨⟨rfl, rfl, hfr, hlo, hpay, List.mem_cons_self⟩, hall _ (by simp), hall _ (by simp), ⟨hy1, hy2⟩, hnn, C.2.2.2.2.2.1 _ hlk9, hall _ (by simp)⟩ ⟨Pcm_blind, hpre⟩ rfl hnp hsz2 hst hlr d ⟨by omega, by omega⟩) hS (va_A_sub hD hS hz C.2.2.2.2.2.2.2.2.2.2.2.1) (fun E h' sz' z => by obtain ⟨v, z, -⟩ := z; cases z) (fun v hs' H1 locs1 hq hP1 hD1 hS1 => ?_)
  obtain ⟨r', hv', kk⟩ := hq
  cases hv'
  exact kk p e s m args below meth c D cA A H1 locs1 (cells + (mRm z).cells) (slots + (mRm z).slots) ls hs' C rfl hP1 hD1 hS1 rfl hl (by omega) (by omega)
def THR (own : String) (ik is ic : Nat) (E text : String) : Prop := Cond.classLink own ik E ∈ BIG ∧ Cond.initialized E ∈ BIG ∧ Cond.stringRef own is text ∈ lw_tbl ∧ Bundle.fit E = true ∧ (∀ w ∈ (vx_atS own ic E ["java/lang/RuntimeException", "java/lang/Exception"]).filter goodWord, w ∈ BIG) ∧ (∀ w ∈ (vx_atS own ic E ["java/lang/RuntimeException", "java/lang/Exception"]).filter (fun w => !goodWord w), w ∈ lw_tbl ∧ isWarm w = true) ∧ ((vx_atS own ic E ["java/lang/RuntimeException", "java/lang/Exception"]).all vx_ot = true)
theorem fitN : ∀ n ∈ ["java/lang/RuntimeException", "java/lang/Exception"], Bundle.fit n = true := by decide
theorem sp_throwS {l : Launch} {X : SCR} {M : MT} {pc : Nat} {lv : List (Nat × Value)} {st : List Value} {h : HP} {sz bc bs : Nat} {Q : PST} {ik is ic : Nat} {E text : String} (hT : THR (mN M).cls ik is ic E text) (hlt : l.stackTraces = false) (hX2 : X.2 = some []) (d0 : decode (mB M) pc = .ok (.new ik, 3)) (d3 : decode (mB M) (pc + 3) = .ok (.dup, 1)) (d4 : decode (mB M) (pc + 4) = .ok (.ldc is, 2)) (d6 : decode (mB M) (pc + 6) = .ok (.invokespecial ic, 3)) (d9 : decode (mB M) (pc + 9) = .ok (.athrow, 1)) (hfr : 6 ≤ (mRm M).frames) (hlo : (st.map fun v => v.category).sum + 82 ≤ (mRm M).locals) (hbc : 1 ≤ bc) (hbs : 6 ≤ bs) (hq : ∀ sz', Q (.inr E) h sz') : SP l X M pc lv st h sz bc bs Q := by
  intro p e s m args below meth c D cA A H locs cells slots ls hs C hh hP hD hS hz hl hc hs2
  obtain ⟨w1, w2, w3, w4, w5, w6, w7⟩ := hT
  obtain ⟨sa, hsa⟩ := C.2.2.2.2.2.2.2.2.2.1.2.2.1 _ _ _ w3
  have g1 : vx_ot (Cond.classLink (mN M).cls ik E) = true := by unfold vx_ot; rw [(List.mem_filter.mp w1).2]; exact Bool.or_true _
  have g2 : vx_ot (Cond.initialized E) = true := by unfold vx_ot; rw [(List.mem_filter.mp w2).2]; exact Bool.or_true _
  refine vx_throwS (rest := st) (names := ["java/lang/RuntimeException", "java/lang/Exception"]) C.1 C.2.1 hlt C.2.2.2.2.1 w4 fitN (C.2.2.2.2.2.1 _ w1) (C.2.2.2.2.2.1 _ w2) hsa (vx_hat (fun w hw => C.2.2.2.2.2.1 _ (w5 w hw)) (fun w hw => hw) (fun w hw => va_Nw.use (isWarm_tabs (w6 w hw).2) (C.2.2.2.2.2.2.2.2.2.1.2.1 _ (w6 w hw).1 (w6 w hw).2))) (fun w hw => ?_) C.2.2.2.2.2.2.2.2.2.2.1.1 C.2.2.2.2.2.2.2.2.2.2.1.2 hS (hl.1.trans C.2.2.1.symm) d0 d3 d4 d6 d9 (fun x hx => by rw [C.2.2.2.2.2.2.2.2.1 _ hX2] at hx; cases hx) (by show 2 + 3 < _; omega) (by show _ + (13 * (2 + 1) + 43) ≤ _; omega) (by omega) (by omega) C.2.2.2.2.2.2.1 (fun t ht hsz9 hq9 => ?_) hS.2.2 (by omega) (by omega)
  · rcases List.mem_cons.mp hw with hw | hw
    · rw [hw]; exact g1
    rcases List.mem_cons.mp hw with hw | hw
    · rw [hw]; exact g2
    exact List.all_eq_true.mp w7 w hw
  · refine ⟨⟨hs, by rw [← hh]; exact hq _, hP.kept (fun k q hk => hq9 q.1 (hP k q hk).lt), hD⟩, Nat.le_trans hS.1 hsz9, fun q h1 h2 => ?_⟩
    rw [hq9 q (Nat.lt_of_lt_of_le h1 hS.1)]
    exact hS.2.1 q h1 h2
theorem sp_throwSW {l : Launch} {X : SCR} {M : MT} {pc : Nat} {lv : List (Nat × Value)} {st : List Value} {h : HP} {sz bc bs : Nat} {Q : PST} {ik is ic : Nat} {E text : String} (hT : THR (mN M).cls ik is ic E text) (hlt : l.stackTraces = false) (hX2 : X.2 = some []) (d0 : decode (mB M) pc = .ok (.new ik, 3)) (d3 : decode (mB M) (pc + 3) = .ok (.dup, 1)) (d4 : decode (mB M) (pc + 4) = .ok (.ldc_w is, 3)) (d6 : decode (mB M) (pc + 7) = .ok (.invokespecial ic, 3)) (d9 : decode (mB M) (pc + 10) = .ok (.athrow, 1)) (hfr : 6 ≤ (mRm M).frames) (hlo : (st.map fun v => v.category).sum + 82 ≤ (mRm M).locals) (hbc : 1 ≤ bc) (hbs : 6 ≤ bs) (hq : ∀ sz', Q (.inr E) h sz') : SP l X M pc lv st h sz bc bs Q := by
  intro p e s m args below meth c D cA A H locs cells slots ls hs C hh hP hD hS hz hl hc hs2
  obtain ⟨w1, w2, w3, w4, w5, w6, w7⟩ := hT
  obtain ⟨sa, hsa⟩ := C.2.2.2.2.2.2.2.2.2.1.2.2.1 _ _ _ w3
  have g1 : vx_ot (Cond.classLink (mN M).cls ik E) = true := by unfold vx_ot; rw [(List.mem_filter.mp w1).2]; exact Bool.or_true _
  have g2 : vx_ot (Cond.initialized E) = true := by unfold vx_ot; rw [(List.mem_filter.mp w2).2]; exact Bool.or_true _
  refine vx_throwSW (rest := st) (names := ["java/lang/RuntimeException", "java/lang/Exception"]) C.1 C.2.1 hlt C.2.2.2.2.1 w4 fitN (C.2.2.2.2.2.1 _ w1) (C.2.2.2.2.2.1 _ w2) hsa (vx_hat (fun w hw => C.2.2.2.2.2.1 _ (w5 w hw)) (fun w hw => hw) (fun w hw => va_Nw.use (isWarm_tabs (w6 w hw).2) (C.2.2.2.2.2.2.2.2.2.1.2.1 _ (w6 w hw).1 (w6 w hw).2))) (fun w hw => ?_) C.2.2.2.2.2.2.2.2.2.2.1.1 C.2.2.2.2.2.2.2.2.2.2.1.2 hS (hl.1.trans C.2.2.1.symm) d0 d3 d4 d6 d9 (fun x hx => by rw [C.2.2.2.2.2.2.2.2.1 _ hX2] at hx; cases hx) (by show 2 + 3 < _; omega) (by show _ + (13 * (2 + 1) + 43) ≤ _; omega) (by omega) (by omega) C.2.2.2.2.2.2.1 (fun t ht hsz9 hq9 => ?_) hS.2.2 (by omega) (by omega)
  · rcases List.mem_cons.mp hw with hw | hw
    · rw [hw]; exact g1
    rcases List.mem_cons.mp hw with hw | hw
    · rw [hw]; exact g2
    exact List.all_eq_true.mp w7 w hw
  · refine ⟨⟨hs, by rw [← hh]; exact hq _, hP.kept (fun k q hk => hq9 q.1 (hP k q hk).lt), hD⟩, Nat.le_trans hS.1 hsz9, fun q h1 h2 => ?_⟩
    rw [hq9 q (Nat.lt_of_lt_of_le h1 hS.1)]
    exact hS.2.1 q h1 h2
