
def FLD (ci : Nat) (own : String) (idx kf : Nat) : Prop := ∃ (C : String) (T : u_T) (N : Nat), vwCl[ci]? = some (C, T, N) ∧ kf < N ∧ (∀ w ∈ u_ws C T N, w ∈ BIG) ∧ (T kf).1 = C ∧ (Cond.fieldLink own idx C (T kf).2.1 (T kf).2.2.1 ∈ BIG ∨ ∃ host, Cond.fieldLinkNest own idx C (T kf).2.1 (T kf).2.2.1 host ∈ lw_tbl)
def PFL (ci : Nat) (own : String) (idx kf : Nat) (ty : FieldType) (fin : Bool) : Prop := ∃ (C : String) (T : u_T) (N : Nat) (ty0 : Nat → FieldType), vwCl[ci]? = some (C, T, N) ∧ kf < N ∧ (∀ w ∈ u_ws C T N, w ∈ BIG) ∧ (T kf).1 = C ∧ Cond.fieldLink own idx C (T kf).2.1 (T kf).2.2.1 ∈ BIG ∧ (∀ k, k < N → parseFieldDescriptor (T k).2.2.1 = some (ty0 k)) ∧ (∀ a, a < N → ∀ b, b < N → a ≠ b → (T a).2.1 ≠ (T b).2.1) ∧ ty0 kf = ty ∧ (T kf).2.2.2 = fin ∧ (fin = true → C = own)

theorem sp_get {l : Launch} {X : SCR} {M : MT} {pc : Nat} {lv : List (Nat × Value)} {st : List Value} {h : HP} {sz bc bs : Nat} {Q : PST} {ci idx kf a : Nat} {fs : List Value} {v : Value} (hf : FLD ci (mN M).cls idx kf) (d : decode (mB M) pc = .ok (.getfield idx, 3)) (ha : h a = some (.inr (ci, fs))) (hv : fs[kf]? = some v) (kk : SP l X M (pc + 3) lv (v :: st) h sz bc bs Q) : SP l X M pc lv (.ref a :: st) h sz bc bs Q := by
  intro p e s m args below meth c D cA A H locs cells slots ls hs C hh hP hD hS hz hl hc hs2
  obtain ⟨C0, T, N, e1, e2, e3, e4, e5⟩ := hf
  obtain ⟨k0, hk0⟩ := hget_at (hs := hs) (by rw [← hh]; exact ha)
  have he := cvS_at (cA := cA) hk0
  rcases e5 with e5 | ⟨host, e5⟩
  · exact va_get C.1 C.2.1 C.2.2.2.2.2.1 e3 C.2.2.2.2.1 C.2.2.2.2.2.2.2.2.2.1.1 hP k0 he e1 kf e2 (C.2.2.2.2.2.1 _ e5) (fun x hx => by rw [e4] at hx; exact hx) hv d (kk p e s m args below meth c D cA A H locs cells slots ls hs C hh hP hD hS hz hl hc hs2)
  · exact va_getN C.1 C.2.1 C.2.2.2.2.2.1 e3 C.2.2.2.2.1 C.2.2.2.2.2.2.2.2.2.1.1 hP k0 he e1 kf e2 (va_Nw.use rfl (C.2.2.2.2.2.2.2.2.2.1.2.1 _ e5 rfl)) (fun x hx => by rw [e4] at hx; exact hx) hv d (kk p e s m args below meth c D cA A H locs cells slots ls hs C hh hP hD hS hz hl hc hs2)
theorem sp_put {l : Launch} {X : SCR} {M : MT} {pc : Nat} {lv : List (Nat × Value)} {st : List Value} {h : HP} {sz bc bs : Nat} {Q : PST} {ci idx kf a : Nat} {fs : List Value} {v : Value} {ty : FieldType} (hf : PFL ci (mN M).cls idx kf ty false) (d : decode (mB M) pc = .ok (.putfield idx, 3)) (ha : h a = some (.inr (ci, fs))) (hlen : kf < fs.length) (hn : narrow ty v = v) (hfit : fits ty v = true) (kk : ∀ sz', SP l X M (pc + 3) lv st (hup h a (.inr (ci, fs.set kf v))) sz' bc bs Q) : SP l X M pc lv (v :: .ref a :: st) h sz bc bs Q := by
  intro p e s m args below meth c D cA A H locs cells slots ls hs C hh hP hD hS hz hl hc hs2
  obtain ⟨C0, T, N, ty0, e1, e2, e3, e4, e5, e6, e7, e8, e9, -⟩ := hf
  obtain ⟨k0, hk0⟩ := hget_at (hs := hs) (by rw [← hh]; exact ha)
  have he := cvS_at (cA := cA) hk0
  refine va_put C.1 C.2.1 C.2.2.2.2.2.1 e3 ty0 e6 e7 C.2.2.2.2.1 C.2.2.2.2.2.2.2.2.2.1.1 hP hD hS k0 he e1 kf e2 (C.2.2.2.2.2.1 _ e5) (fun x hx => by rw [e4] at hx; exact hx) e9 (ty := ty) (by rw [e6 kf e2, e8]) hn hfit hlen d (fun H1 locs1 hP1 hD1 hS1 => ?_)
  rw [show (Sum.inr (ci, fs.set kf v) : va_E) = cvE cA (.inr (ci, fs.set kf v)) from rfl, cvS_set] at hP1 hD1
  exact (kk H1.size p e s m args below meth c D cA A H1 locs1 cells slots ls _ C (by rw [hh, (hget_set (hnd_of hD) hk0).2]) hP1 hD1 hS1 rfl hl hc hs2)
theorem sp_putF {l : Launch} {X : SCR} {M : MT} {pc : Nat} {lv : List (Nat × Value)} {st : List Value} {h : HP} {sz bc bs : Nat} {Q : PST} {ci idx kf a : Nat} {fs : List Value} {v : Value} {ty : FieldType} (hf : PFL ci (mN M).cls idx kf ty true) (hini : (mN M).name = "<init>") (d : decode (mB M) pc = .ok (.putfield idx, 3)) (ha : h a = some (.inr (ci, fs))) (hlen : kf < fs.length) (hn : narrow ty v = v) (hfit : fits ty v = true) (kk : SP l X M (pc + 3) lv st (hup h a (.inr (ci, fs.set kf v))) sz bc bs Q) : SP l X M pc lv (v :: .ref a :: st) h sz bc bs Q := by
  intro p e s m args below meth c D cA A H locs cells slots ls hs C hh hP hD hS hz hl hc hs2
  obtain ⟨C0, T, N, ty0, hc0, hk, hin, hdecl, hlink, hty, hnm, hty2, hfin, hown2⟩ := hf
  obtain ⟨k0, hk0⟩ := hget_at (hs := hs) (by rw [← hh]; exact ha)
  have he := cvS_at (cA := cA) hk0
  have hap := va_apart (own := (mN M).cls) C.2.2.2.2.2.1 hin ty0 hty hnm C.2.2.2.2.2.2.2.2.2.1.1 hc0
  obtain ⟨r, h1, cell, q1, q2, q3, q4⟩ := hP k0 _ he
  have hr : r = (C0, T, N) := Option.some.inj (h1.symm.trans hc0)
  subst hr
  obtain ⟨hSl, hfc, kC, hkC, hkind⟩ := C.2.2.2.2.2.2.2.2.2.1.1.1 ci _ hc0
  obtain ⟨cf, kff, fi, f, hi, hsl⟩ := hSl kf hk
  have hlay := C.2.2.2.2.2.1 _ (hin _ (u_in_lay hk))
  unfold u_lay at hlay
  rw [if_pos hfin] at hlay
  have hst := (u_facts hfc hkC (u_lays C.2.2.2.2.2.1 hin hk) hi).1
  have hcf : m.cls = cf := by
    obtain ⟨_, _, c', _, _, _, -, -, hf', -, -, -, hown3, -⟩ := Cond.laysFinal_spec hlay
    have e1 : c' = cf := by have := hi.symm.trans hf'; simp at this; exact this.1.symm
    rw [hdecl, hown2 rfl] at hown3
    rw [← e1]; exact Option.some.inj (C.2.2.2.2.1.symm.trans hown3)
  have h6 := u_fits hfc hkC hkind (Or.inr hlay) hi (by rw [hty kf hk, hty2]) hn hfit
  refine W.putFinK C.1 C.2.1 C.2.2.2.2.1 (C.2.2.2.2.2.1 _ hlink) (show s.fieldFound? C0 _ _ = some _ by rw [hdecl] at hi; exact hi) hst hcf (C.2.2.2.2.2.2.2.1 hini) (by rw [q2]; exact h6) q1 q3 (by rw [hsl]; exact k2_hasslot (q4 kf hk)) rfl rfl d fun H' e1 e2 e3 => ?_
  rw [hsl] at e1 ⊢
  have hP1 := hP.set (e := (Sum.inr (ci, fs.set kf v) : va_E)) hD he ⟨_, hc0, t_OB.to (V := updV (vp_V fs) kf v) ⟨_, e1, q2, q3, t_set q4 hap hk v⟩ (fun j _ => vp_updV_set hlen v j)⟩ e3
  have hD1 := hD.set (e := (Sum.inr (ci, fs.set kf v) : va_E)) he
  rw [show (Sum.inr (ci, fs.set kf v) : va_E) = cvE cA (.inr (ci, fs.set kf v)) from rfl, cvS_set] at hP1 hD1
  exact kk p e s m args below meth c D cA A H' _ cells slots ls _ C (by rw [hh, (hget_set (hnd_of hD) hk0).2]) hP1 hD1 (hS.put e2 e3 (hD.2 k0 _ he)) (e2.trans hz) hl hc hs2
theorem sp_putX {l : Launch} {X : SCR} {M : MT} {pc : Nat} {lv : List (Nat × Value)} {st : List Value} {h : HP} {sz bc bs : Nat} {Q : PST} {ci idx kf a : Nat} {fs : List Value} {v : Value} {ty : FieldType} (hf : PFL ci (mN M).cls idx kf ty false) (d : decode (mB M) pc = .ok (.putfield idx, 3)) (ha : h a = some (.inr (ci, fs))) (hlen : kf < fs.length) (hn : narrow ty v = v) (hfit : fits ty v = true) (kk : SP l X M (pc + 3) lv st (hup h a (.inr (ci, fs.set kf v))) sz bc bs Q) : SP l X M pc lv (v :: .ref a :: st) h sz bc bs Q := by
  intro p e s m args below meth c D cA A H locs cells slots ls hs C hh hP hD hS hz hl hc hs2
  obtain ⟨C0, T, N, ty0, hc0, hk, hin, hdecl, hlink, hty, hnm, hty2, hfin, hown2⟩ := hf
  obtain ⟨k0, hk0⟩ := hget_at (hs := hs) (by rw [← hh]; exact ha)
  have he := cvS_at (cA := cA) hk0
  have hap := va_apart (own := (mN M).cls) C.2.2.2.2.2.1 hin ty0 hty hnm C.2.2.2.2.2.2.2.2.2.1.1 hc0
  obtain ⟨r, h1, cell, q1, q2, q3, q4⟩ := hP k0 _ he
  have hr : r = (C0, T, N) := Option.some.inj (h1.symm.trans hc0)
  subst hr
  obtain ⟨hSl, hfc, kC, hkC, hkind⟩ := C.2.2.2.2.2.2.2.2.2.1.1.1 ci _ hc0
  obtain ⟨cf, kff, fi, f, hi, hsl⟩ := hSl kf hk
  have hlay := C.2.2.2.2.2.1 _ (hin _ (u_in_lay hk))
  unfold u_lay at hlay
  rw [if_neg (by rw [hfin]; decide)] at hlay
  have hst := (u_facts hfc hkC (u_lays C.2.2.2.2.2.1 hin hk) hi).1
  have h6 := u_store hfc hkC hkind hlay hi (by rw [hty kf hk, hty2]) hn hfit
  refine W.putK C.1 C.2.1 (f := f) ⟨C.2.2.2.2.1, C.2.2.2.2.2.1 _ hlink, ⟨_, _, _, show s.fieldFound? C0 _ _ = some _ by rw [hdecl] at hi; exact hi⟩, hst⟩ (by rw [q2]; exact h6) q1 q3 (by rw [hsl]; exact k2_hasslot (q4 kf hk)) rfl rfl d fun H' e1 e2 e3 => ?_
  rw [hsl] at e1 ⊢
  have hP1 := hP.set (e := (Sum.inr (ci, fs.set kf v) : va_E)) hD he ⟨_, hc0, t_OB.to (V := updV (vp_V fs) kf v) ⟨_, e1, q2, q3, t_set q4 hap hk v⟩ (fun j _ => vp_updV_set hlen v j)⟩ e3
  have hD1 := hD.set (e := (Sum.inr (ci, fs.set kf v) : va_E)) he
  rw [show (Sum.inr (ci, fs.set kf v) : va_E) = cvE cA (.inr (ci, fs.set kf v)) from rfl, cvS_set] at hP1 hD1
  exact kk p e s m args below meth c D cA A H' _ cells slots ls _ C (by rw [hh, (hget_set (hnd_of hD) hk0).2]) hP1 hD1 (hS.put e2 e3 (hD.2 k0 _ he)) (e2.trans hz) hl hc hs2
theorem sp_iald {l : Launch} {X : SCR} {M : MT} {pc : Nat} {lv : List (Nat × Value)} {st : List Value} {h : HP} {sz bc bs : Nat} {Q : PST} {a n : Nat} {f : Nat → Int32} {i : Int32} (d : decode (mB M) pc = .ok (.iaload, 1)) (ha : h a = some (.inl (0, n, .inl f))) (hin : vp_in i n) (kk : SP l X M (pc + 1) lv (.int (f i.toNatClampNeg) :: st) h sz bc bs Q) : SP l X M pc lv (.int i :: .ref a :: st) h sz bc bs Q := by
  intro p e s m args below meth c D cA A H locs cells slots ls hs C hh hP hD hS hz hl hc hs2
  obtain ⟨k0, hk0⟩ := hget_at (hs := hs) (by rw [← hh]; exact ha)
  exact va_iald C.1 C.2.1 C.2.2.2.2.2.2.2.2.2.1.1 hP k0 0 (cvS_at (cA := cA) hk0) (tysL_at (cA := cA) (k := 0) (by decide)) hin d (kk p e s m args below meth c D cA A H locs cells slots ls hs C hh hP hD hS hz hl hc hs2)
theorem sp_zald {l : Launch} {X : SCR} {M : MT} {pc : Nat} {lv : List (Nat × Value)} {st : List Value} {h : HP} {sz bc bs : Nat} {Q : PST} {a n : Nat} {f : Nat → Int32} {i : Int32} (d : decode (mB M) pc = .ok (.baload, 1)) (ha : h a = some (.inl (1, n, .inl f))) (hin : vp_in i n) (kk : SP l X M (pc + 1) lv (.int (f i.toNatClampNeg) :: st) h sz bc bs Q) : SP l X M pc lv (.int i :: .ref a :: st) h sz bc bs Q := by
  intro p e s m args below meth c D cA A H locs cells slots ls hs C hh hP hD hS hz hl hc hs2
  obtain ⟨k0, hk0⟩ := hget_at (hs := hs) (by rw [← hh]; exact ha)
  exact va_zald C.1 C.2.1 C.2.2.2.2.2.2.2.2.2.1.1 hP k0 1 (cvS_at (cA := cA) hk0) (tysL_at (cA := cA) (k := 1) (by decide)) hin d (kk p e s m args below meth c D cA A H locs cells slots ls hs C hh hP hD hS hz hl hc hs2)
theorem sp_iast {l : Launch} {X : SCR} {M : MT} {pc : Nat} {lv : List (Nat × Value)} {st : List Value} {h : HP} {sz bc bs : Nat} {Q : PST} {a n : Nat} {f : Nat → Int32} {i : Int32} {x : Int32} (d : decode (mB M) pc = .ok (.iastore, 1)) (ha : h a = some (.inl (0, n, .inl f))) (hin : vp_in i n) (kk : ∀ sz', SP l X M (pc + 1) lv st (hup h a (.inl (0, n, .inl (upd f i.toNatClampNeg x)))) sz' bc bs Q) : SP l X M pc lv (.int x :: .int i :: .ref a :: st) h sz bc bs Q := by
  intro p e s m args below meth c D cA A H locs cells slots ls hs C hh hP hD hS hz hl hc hs2
  obtain ⟨k0, hk0⟩ := hget_at (hs := hs) (by rw [← hh]; exact ha)
  refine va_iast C.1 C.2.1 C.2.2.2.2.2.2.2.2.2.1.1 hP hD hS k0 0 (cvS_at (cA := cA) hk0) (tysL_at (cA := cA) (k := 0) (by decide)) hin d (fun H1 locs1 hP1 hD1 hS1 => ?_)
  rw [show (Sum.inl (cA 0, n, .inl (upd f i.toNatClampNeg x)) : va_E) = cvE cA (.inl (0, n, .inl (upd f i.toNatClampNeg x))) from rfl, cvS_set] at hP1 hD1
  exact (kk H1.size p e s m args below meth c D cA A H1 locs1 cells slots ls _ C (by rw [hh, (hget_set (hnd_of hD) hk0).2]) hP1 hD1 hS1 rfl hl hc hs2)
theorem sp_zast {l : Launch} {X : SCR} {M : MT} {pc : Nat} {lv : List (Nat × Value)} {st : List Value} {h : HP} {sz bc bs : Nat} {Q : PST} {a n : Nat} {f : Nat → Int32} {i : Int32} {x : Int32} (d : decode (mB M) pc = .ok (.bastore, 1)) (ha : h a = some (.inl (1, n, .inl f))) (hin : vp_in i n) (kk : ∀ sz', SP l X M (pc + 1) lv st (hup h a (.inl (1, n, .inl (upd f i.toNatClampNeg (vp_nar .boolean x))))) sz' bc bs Q) : SP l X M pc lv (.int x :: .int i :: .ref a :: st) h sz bc bs Q := by
  intro p e s m args below meth c D cA A H locs cells slots ls hs C hh hP hD hS hz hl hc hs2
  obtain ⟨k0, hk0⟩ := hget_at (hs := hs) (by rw [← hh]; exact ha)
  refine va_zast C.1 C.2.1 C.2.2.2.2.2.2.2.2.2.1.1 hP hD hS k0 1 (cvS_at (cA := cA) hk0) (tysL_at (cA := cA) (k := 1) (by decide)) hin d (fun H1 locs1 hP1 hD1 hS1 => ?_)
  rw [show (Sum.inl (cA 1, n, .inl (upd f i.toNatClampNeg (vp_nar .boolean x))) : va_E) = cvE cA (.inl (1, n, .inl (upd f i.toNatClampNeg (vp_nar .boolean x)))) from rfl, cvS_set] at hP1 hD1
  exact (kk H1.size p e s m args below meth c D cA A H1 locs1 cells slots ls _ C (by rw [hh, (hget_set (hnd_of hD) hk0).2]) hP1 hD1 hS1 rfl hl hc hs2)
theorem sp_aald3 {l : Launch} {X : SCR} {M : MT} {pc : Nat} {lv : List (Nat × Value)} {st : List Value} {h : HP} {sz bc bs : Nat} {Q : PST} {a n y : Nat} {f : Nat → Option Nat} {i : Int32} (d : decode (mB M) pc = .ok (.aaload, 1)) (ha : h a = some (.inl (3, n, .inr (.inr (.inr (.inr f)))))) (hin : vp_in i n) (hy : f i.toNatClampNeg = some y) (kk : SP l X M (pc + 1) lv (.ref y :: st) h sz bc bs Q) : SP l X M pc lv (.int i :: .ref a :: st) h sz bc bs Q := by
  intro p e s m args below meth c D cA A H locs cells slots ls hs C hh hP hD hS hz hl hc hs2
  obtain ⟨k0, hk0⟩ := hget_at (hs := hs) (by rw [← hh]; exact ha)
  refine va_aldq (C := RX2) C.1 C.2.1 C.2.2.2.2.2.2.2.2.2.1.1 hP k0 3 (cvS_at (cA := cA) hk0) (tysL_at (cA := cA) (k := 3) (by decide)) hin d ?_
  rw [hy]
  exact kk p e s m args below meth c D cA A H locs cells slots ls hs C hh hP hD hS hz hl hc hs2
theorem sp_aast3 {l : Launch} {X : SCR} {M : MT} {pc : Nat} {lv : List (Nat × Value)} {st : List Value} {h : HP} {sz bc bs : Nat} {Q : PST} {a n y : Nat} {f : Nat → Option Nat} {vs : List Value} {i : Int32} (d : decode (mB M) pc = .ok (.aastore, 1)) (ha : h a = some (.inl (3, n, .inr (.inr (.inr (.inr f)))))) (hin : vp_in i n) (hy : h y = some (.inr (2, vs))) (kk : SP l X M (pc + 1) lv st (hup h a (.inl (3, n, .inr (.inr (.inr (.inr (va_up f i.toNatClampNeg (some y)))))))) sz bc bs Q) : SP l X M pc lv (.ref y :: .int i :: .ref a :: st) h sz bc bs Q := by
  intro p e s m args below meth c D cA A H locs cells slots ls hs C hh hP hD hS hz hl hc hs2
  obtain ⟨k0, hk0⟩ := hget_at (hs := hs) (by rw [← hh]; exact ha)
  obtain ⟨k1, hk1⟩ := hget_at (hs := hs) (by rw [← hh]; exact hy)
  have hlt : i.toNatClampNeg < n := Nat.not_le.mp fun q => hin (Or.inr q)
  have h0 : ¬ i < 0 := fun q => hin (Or.inl q)
  have ha2 := cvS_at (cA := cA) hk0
  obtain ⟨r', hr', cellV, g1, g2, g3, -⟩ := hP k1 _ (cvS_at (cA := cA) hk1)
  have hcls := (C.2.2.2.2.2.2.2.2.2.1.1.1 2 _ (show vwCl[2]? = some (RX2, TX2, _) from rfl)).2
  obtain ⟨kA, comp, y1, y2, y3, -⟩ := (C.2.2.2.2.2.2.2.2.2.1.1.2 3 _ (tysL_at (cA := cA) (k := 3) (by decide))).2
  have hcomp : comp = D.1 2 := Option.some.inj (y3.symm.trans hcls.1)
  subst hcomp
  obtain ⟨kC, hkC, -⟩ := hcls.2
  refine W.aast C.1 C.2.1 (hP k0 _ ha2) (fun q h => by cases h) (fun h => by cases h) y1 y2 rfl hkC ⟨h0, by show _ < (arrV _ _ _).slots.size; rw [arrV_size]; exact hlt⟩ g1 (fun q h => by rw [g3] at h; cases h) (by rw [g2]; exact hkC) (by rw [g2]; exact va_assign hcls) rfl rfl d fun H1 e1 e2 e3 => ?_
  have hP1 := hP.set (e := (Sum.inl (cA 3, n, .inr (.inr (.inr (.inr (va_up f i.toNatClampNeg (some y)))))) : va_E)) hD ha2 (by
    show H1[a]? = some (vp_cell _ _)
    rw [e1]
    show some ((vp_cell _ _).setSlot _ _) = _
    rw [vp_cell_q, vp_cell_q, arrV_store]
    congr 2
    funext q
    by_cases hq : q = i.toNatClampNeg
    · subst hq; simp [updV, va_up, va_rf]
    · simp [updV, va_up, hq]) e3
  have hD1 := hD.set (e := (Sum.inl (cA 3, n, .inr (.inr (.inr (.inr (va_up f i.toNatClampNeg (some y)))))) : va_E)) ha2
  rw [show (Sum.inl (cA 3, n, .inr (.inr (.inr (.inr (va_up f i.toNatClampNeg (some y)))))) : va_E) = cvE cA (.inl (3, n, .inr (.inr (.inr (.inr (va_up f i.toNatClampNeg (some y))))))) from rfl, cvS_set] at hP1 hD1
  exact kk p e s m args below meth c D cA A H1 _ cells slots ls _ C (by rw [hh, (hget_set (hnd_of hD) hk0).2]) hP1 hD1 (hS.put e2 e3 (hD.2 k0 _ ha2)) (e2.trans hz) hl hc hs2
theorem sp_aald4 {l : Launch} {X : SCR} {M : MT} {pc : Nat} {lv : List (Nat × Value)} {st : List Value} {h : HP} {sz bc bs : Nat} {Q : PST} {a n y : Nat} {f : Nat → Option Nat} {i : Int32} (d : decode (mB M) pc = .ok (.aaload, 1)) (ha : h a = some (.inl (4, n, .inr (.inr (.inr (.inr f)))))) (hin : vp_in i n) (hy : f i.toNatClampNeg = some y) (kk : SP l X M (pc + 1) lv (.ref y :: st) h sz bc bs Q) : SP l X M pc lv (.int i :: .ref a :: st) h sz bc bs Q := by
  intro p e s m args below meth c D cA A H locs cells slots ls hs C hh hP hD hS hz hl hc hs2
  obtain ⟨k0, hk0⟩ := hget_at (hs := hs) (by rw [← hh]; exact ha)
  refine va_aldq (C := RX3) C.1 C.2.1 C.2.2.2.2.2.2.2.2.2.1.1 hP k0 4 (cvS_at (cA := cA) hk0) (tysL_at (cA := cA) (k := 4) (by decide)) hin d ?_
  rw [hy]
  exact kk p e s m args below meth c D cA A H locs cells slots ls hs C hh hP hD hS hz hl hc hs2
theorem sp_aast4 {l : Launch} {X : SCR} {M : MT} {pc : Nat} {lv : List (Nat × Value)} {st : List Value} {h : HP} {sz bc bs : Nat} {Q : PST} {a n y : Nat} {f : Nat → Option Nat} {vs : List Value} {i : Int32} (d : decode (mB M) pc = .ok (.aastore, 1)) (ha : h a = some (.inl (4, n, .inr (.inr (.inr (.inr f)))))) (hin : vp_in i n) (hy : h y = some (.inr (3, vs))) (kk : SP l X M (pc + 1) lv st (hup h a (.inl (4, n, .inr (.inr (.inr (.inr (va_up f i.toNatClampNeg (some y)))))))) sz bc bs Q) : SP l X M pc lv (.ref y :: .int i :: .ref a :: st) h sz bc bs Q := by
  intro p e s m args below meth c D cA A H locs cells slots ls hs C hh hP hD hS hz hl hc hs2
  obtain ⟨k0, hk0⟩ := hget_at (hs := hs) (by rw [← hh]; exact ha)
  obtain ⟨k1, hk1⟩ := hget_at (hs := hs) (by rw [← hh]; exact hy)
  have hlt : i.toNatClampNeg < n := Nat.not_le.mp fun q => hin (Or.inr q)
  have h0 : ¬ i < 0 := fun q => hin (Or.inl q)
  have ha2 := cvS_at (cA := cA) hk0
  obtain ⟨r', hr', cellV, g1, g2, g3, -⟩ := hP k1 _ (cvS_at (cA := cA) hk1)
  have hcls := (C.2.2.2.2.2.2.2.2.2.1.1.1 3 _ (show vwCl[3]? = some (RX3, TX3, _) from rfl)).2
  obtain ⟨kA, comp, y1, y2, y3, -⟩ := (C.2.2.2.2.2.2.2.2.2.1.1.2 4 _ (tysL_at (cA := cA) (k := 4) (by decide))).2
  have hcomp : comp = D.1 3 := Option.some.inj (y3.symm.trans hcls.1)
  subst hcomp
  obtain ⟨kC, hkC, -⟩ := hcls.2
  refine W.aast C.1 C.2.1 (hP k0 _ ha2) (fun q h => by cases h) (fun h => by cases h) y1 y2 rfl hkC ⟨h0, by show _ < (arrV _ _ _).slots.size; rw [arrV_size]; exact hlt⟩ g1 (fun q h => by rw [g3] at h; cases h) (by rw [g2]; exact hkC) (by rw [g2]; exact va_assign hcls) rfl rfl d fun H1 e1 e2 e3 => ?_
  have hP1 := hP.set (e := (Sum.inl (cA 4, n, .inr (.inr (.inr (.inr (va_up f i.toNatClampNeg (some y)))))) : va_E)) hD ha2 (by
    show H1[a]? = some (vp_cell _ _)
    rw [e1]
    show some ((vp_cell _ _).setSlot _ _) = _
    rw [vp_cell_q, vp_cell_q, arrV_store]
    congr 2
    funext q
    by_cases hq : q = i.toNatClampNeg
    · subst hq; simp [updV, va_up, va_rf]
    · simp [updV, va_up, hq]) e3
  have hD1 := hD.set (e := (Sum.inl (cA 4, n, .inr (.inr (.inr (.inr (va_up f i.toNatClampNeg (some y)))))) : va_E)) ha2
  rw [show (Sum.inl (cA 4, n, .inr (.inr (.inr (.inr (va_up f i.toNatClampNeg (some y)))))) : va_E) = cvE cA (.inl (4, n, .inr (.inr (.inr (.inr (va_up f i.toNatClampNeg (some y))))))) from rfl, cvS_set] at hP1 hD1
  exact kk p e s m args below meth c D cA A H1 _ cells slots ls _ C (by rw [hh, (hget_set (hnd_of hD) hk0).2]) hP1 hD1 (hS.put e2 e3 (hD.2 k0 _ ha2)) (e2.trans hz) hl hc hs2
theorem sp_alen {l : Launch} {X : SCR} {M : MT} {pc : Nat} {lv : List (Nat × Value)} {st : List Value} {h : HP} {sz bc bs : Nat} {Q : PST} {a kd : Nat} {x : vp_A} (d : decode (mB M) pc = .ok (.arraylength, 1)) (hkd : kd < 5) (ha : h a = some (.inl (kd, x))) (kk : SP l X M (pc + 1) lv (.int (Int32.ofNat x.1) :: st) h sz bc bs Q) : SP l X M pc lv (.ref a :: st) h sz bc bs Q := by
  intro p e s m args below meth c D cA A H locs cells slots ls hs C hh hP hD hS hz hl hc hs2
  obtain ⟨k0, hk0⟩ := hget_at (hs := hs) (by rw [← hh]; exact ha)
  exact va_alen C.1 C.2.1 C.2.2.2.2.2.2.2.2.2.1.1 hP k0 kd (cvS_at (cA := cA) hk0) (tysL_at (cA := cA) hkd) rfl d (kk p e s m args below meth c D cA A H locs cells slots ls hs C hh hP hD hS hz hl hc hs2)
theorem sp_sld {l : Launch} {X : SCR} {M : MT} {pc : Nat} {lv : List (Nat × Value)} {st : List Value} {h : HP} {sz bc bs : Nat} {Q : PST} {b L : Nat} {xs : Nat → Int32} {i : Int32} (hX : X.1 = some (b, L, xs)) (d : decode (mB M) pc = .ok (.iaload, 1)) (hin : vp_in i L) (kk : SP l X M (pc + 1) lv (.int (xs i.toNatClampNeg) :: st) h sz bc bs Q) : SP l X M pc lv (.int i :: .ref b :: st) h sz bc bs Q := by
  intro p e s m args below meth c D cA A H locs cells slots ls hs C hh hP hD hS hz hl hc hs2
  obtain ⟨x1, x2, x3⟩ := C.2.2.2.2.2.2.2.2.2.2.2.2 b L xs hX
  exact va_sld C.1 C.2.1 x1 x2 x3 hS hin d (kk p e s m args below meth c D cA A H locs cells slots ls hs C hh hP hD hS hz hl hc hs2)
theorem sp_slen {l : Launch} {X : SCR} {M : MT} {pc : Nat} {lv : List (Nat × Value)} {st : List Value} {h : HP} {sz bc bs : Nat} {Q : PST} {b L : Nat} {xs : Nat → Int32} (hX : X.1 = some (b, L, xs)) (d : decode (mB M) pc = .ok (.arraylength, 1)) (kk : SP l X M (pc + 1) lv (.int (Int32.ofNat L) :: st) h sz bc bs Q) : SP l X M pc lv (.ref b :: st) h sz bc bs Q := by
  intro p e s m args below meth c D cA A H locs cells slots ls hs C hh hP hD hS hz hl hc hs2
  obtain ⟨x1, x2, x3⟩ := C.2.2.2.2.2.2.2.2.2.2.2.2 b L xs hX
  exact va_slen C.1 C.2.1 x1 x2 x3 hS d (kk p e s m args below meth c D cA A H locs cells slots ls hs C hh hP hD hS hz hl hc hs2)
