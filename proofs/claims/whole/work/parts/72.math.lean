/-! both sides as wholes -/
/-- the state, the remembered states, the slots, the text -/
abbrev AB := SG × List SG × (Option SG × Option SG) × List Int
theorem TXT_mv {h h' : HP} {t : Nat} {l : List Int} (e : TXT h t l) (k : ∀ b, t ≤ b → b < t + 2 → h' b = h b) : TXT h' t l := by
  obtain ⟨f, e0, e1, r⟩ := e
  exact ⟨f, (k _ (by omega) (by omega)).trans e0, (k _ (by omega) (by omega)).trans e1, r⟩
theorem VIEW_mv {h h' : HP} {v : Nat} {f : Nat → Int} (e : VIEW h v f) (k : ∀ b, v ≤ b → b < v + 2 → h' b = h b) : VIEW h' v f := by
  obtain ⟨F, e0, e1, e2⟩ := e
  exact ⟨F, (k _ (by omega) (by omega)).trans e0, (k _ (by omega) (by omega)).trans e1, e2⟩
theorem HISC_mv {h h' : HP} {cl q : Nat} {l : List SG} (e : HISC h cl q l) (k : ∀ b, q ≤ b → b < q + 114 → h' b = h b) : HISC h' cl q l := by
  obtain ⟨o, G, e0, e1, e2, e3, e4, e5, e6⟩ := e
  refine ⟨o, G, (k _ (by omega) (by omega)).trans e0, (k _ (by omega) (by omega)).trans e1, e2, e3, e4, fun i hi => ?_, fun i hi => ?_⟩
  · obtain ⟨S, hS⟩ := e5 i hi
    exact ⟨S, STO_mv hS fun b h1 h2 => k b (by omega) (by omega)⟩
  · exact STO_mv (e6 i hi) fun b h1 h2 => k b (by omega) (by omega)
theorem CLN_mv {h h' : HP} {c : Nat} (e : CLN h c) (k : ∀ b, c ≤ b → b < c + 158 → h' b = h b) : CLN h' c := by
  obtain ⟨ws, L, G, e0, e1, e2, e3, e4⟩ := e
  refine ⟨ws, L, G, (k _ (by omega) (by omega)).trans e0, (k _ (by omega) (by omega)).trans e1, e2, WRS_mv e3 (fun b h1 h2 => k b (by omega) (by omega)), fun i hi => ?_⟩
  obtain ⟨lo, hi', g0, g1⟩ := e4 i hi
  exact ⟨lo, hi', (k _ (by omega) (by omega)).trans g0, g1⟩
/-- the slots of the class -/
def SLC (h : HP) (x : Nat) (s : Option SG × Option SG) : Prop := ∃ (G : Nat → Option Nat) (fl : Nat → Int32), h (x + 291) = some (.inl (4, 2, .inr (.inr (.inr (.inr G))))) ∧ (G 0 = some (x + 292) ∧ G 1 = some (x + 300)) ∧ h (x + 308) = some (.inl (1, 2, .inl fl)) ∧ (fl 0 = tB (s.1.isSome = true) ∧ fl 1 = tB (s.2.isSome = true)) ∧ (∃ T, STO h (x + 1) (x + 292) 48 T ∧ ∀ U, s.1 = some U → T = U) ∧ ∃ T, STO h (x + 1) (x + 300) 48 T ∧ ∀ U, s.2 = some U → T = U
theorem SLC_mv {h h' : HP} {x : Nat} {s : Option SG × Option SG} (e : SLC h x s) (k : ∀ b, x + 291 ≤ b → b < x + 309 → h' b = h b) : SLC h' x s := by
  obtain ⟨G, fl, e0, e1, e2, e3, ⟨T, e4, e5⟩, U, e6, e7⟩ := e
  exact ⟨G, fl, (k _ (by omega) (by omega)).trans e0, e1, (k _ (by omega) (by omega)).trans e2, e3, ⟨T, STO_mv e4 fun b h1 h2 => k b (by omega) (by omega), e5⟩, U, STO_mv e6 fun b h1 h2 => k b (by omega) (by omega), e7⟩
def xrow (x : Nat) : List Value := [.ref (x + 159), .ref (x + 161), .ref (x + 169), .ref (x + 177), .ref (x + 291), .ref (x + 308), .ref (x + 309)]
/-- the class's object at x -/
def CLS (h : HP) (x : Nat) (A : AB) : Prop := h x = some (.inr (7, xrow x)) ∧ CLN h (x + 1) ∧ TXT h (x + 159) A.2.2.2 ∧ STO h (x + 1) (x + 161) 48 A.1 ∧ (∃ T, STO h (x + 1) (x + 169) 148 T) ∧ HISC h (x + 1) (x + 177) A.2.1 ∧ SLC h x A.2.2.1 ∧ ∃ f, VIEW h (x + 309) f
theorem CLS_off {h h' : HP} {x a n : Nat} {A : AB} (e : CLS h x A) (k : OFF a n h h') (d : x + 311 ≤ a ∨ a + n ≤ x) : CLS h' x A := by
  obtain ⟨e0, e1, e2, e3, ⟨T, e4⟩, e5, e6, f, e7⟩ := e
  exact ⟨(k _ (by omega)).trans e0, CLN_off e1 k (by omega), TXT_off e2 k (by omega), STO_off e3 k (by omega), ⟨T, STO_off e4 k (by omega)⟩, HISC_mv e5 fun b h1 h2 => k b (by omega), SLC_mv e6 fun b h1 h2 => k b (by omega), f, VIEW_off e7 k (by omega)⟩
theorem CLS_st {h h' : HP} {x : Nat} {A : AB} (e : CLS h x A) (k : FR (x + 1) (x + 161) h h') (c : CLN h' (x + 1)) {S : SG} (s : STO h' (x + 1) (x + 161) 48 S) : CLS h' x (S, A.2) := by
  obtain ⟨e0, e1, e2, e3, ⟨T, e4⟩, e5, e6, f, e7⟩ := e
  exact ⟨(k _ (by omega) (by omega)).trans e0, c, TXT_mv e2 fun b h1 h2 => k b (by omega) (by omega), s, ⟨T, STO_mv e4 fun b h1 h2 => k b (by omega) (by omega)⟩, HISC_mv e5 fun b h1 h2 => k b (by omega) (by omega), SLC_mv e6 fun b h1 h2 => k b (by omega) (by omega), f, VIEW_mv e7 fun b h1 h2 => k b (by omega) (by omega)⟩
theorem CLS_tr {h h' : HP} {x : Nat} {A : AB} (e : CLS h x A) (k : FR (x + 1) (x + 169) h h') (c : CLN h' (x + 1)) {S : SG} (s : STO h' (x + 1) (x + 169) 148 S) : CLS h' x A := by
  obtain ⟨e0, e1, e2, e3, -, e5, e6, f, e7⟩ := e
  exact ⟨(k _ (by omega) (by omega)).trans e0, c, TXT_mv e2 fun b h1 h2 => k b (by omega) (by omega), STO_mv e3 fun b h1 h2 => k b (by omega) (by omega), ⟨S, s⟩, HISC_mv e5 fun b h1 h2 => k b (by omega) (by omega), SLC_mv e6 fun b h1 h2 => k b (by omega) (by omega), f, VIEW_mv e7 fun b h1 h2 => k b (by omega) (by omega)⟩
theorem CLS_cl {h h' : HP} {x : Nat} {A : AB} (e : CLS h x A) (k : OFF (x + 1) 158 h h') (c : CLN h' (x + 1)) : CLS h' x A := by
  obtain ⟨e0, e1, e2, e3, ⟨T, e4⟩, e5, e6, f, e7⟩ := e
  exact ⟨(k _ (by omega)).trans e0, c, TXT_off e2 k (by omega), STO_off e3 k (by omega), ⟨T, STO_off e4 k (by omega)⟩, HISC_mv e5 fun b h1 h2 => k b (by omega), SLC_mv e6 fun b h1 h2 => k b (by omega), f, VIEW_off e7 k (by omega)⟩
theorem CLS_vw {h h' : HP} {x : Nat} {A : AB} (e : CLS h x A) (k : OFF (x + 309) 2 h h') {f : Nat → Int} (v : VIEW h' (x + 309) f) : CLS h' x A := by
  obtain ⟨e0, e1, e2, e3, ⟨T, e4⟩, e5, e6, -⟩ := e
  exact ⟨(k _ (by omega)).trans e0, CLN_off e1 k (by omega), TXT_off e2 k (by omega), STO_off e3 k (by omega), ⟨T, STO_off e4 k (by omega)⟩, HISC_mv e5 fun b h1 h2 => k b (by omega), SLC_mv e6 fun b h1 h2 => k b (by omega), f, v⟩
theorem CLS_hi {h h' : HP} {x : Nat} {A : AB} (e : CLS h x A) (k : OFF (x + 177) 114 h h') {l : List SG} (v : HISC h' (x + 1) (x + 177) l) : CLS h' x (A.1, l, A.2.2) := by
  obtain ⟨e0, e1, e2, e3, ⟨T, e4⟩, e5, e6, f, e7⟩ := e
  exact ⟨(k _ (by omega)).trans e0, CLN_off e1 k (by omega), TXT_off e2 k (by omega), STO_off e3 k (by omega), ⟨T, STO_off e4 k (by omega)⟩, v, SLC_mv e6 fun b h1 h2 => k b (by omega), f, VIEW_off e7 k (by omega)⟩
theorem CLS_tx {h h' : HP} {x : Nat} {A : AB} (e : CLS h x A) (k : OFF (x + 159) 2 h h') {l : List Int} (v : TXT h' (x + 159) l) : CLS h' x (A.1, A.2.1, A.2.2.1, l) := by
  obtain ⟨e0, e1, e2, e3, ⟨T, e4⟩, e5, e6, f, e7⟩ := e
  exact ⟨(k _ (by omega)).trans e0, CLN_off e1 k (by omega), v, STO_off e3 k (by omega), ⟨T, STO_off e4 k (by omega)⟩, HISC_mv e5 fun b h1 h2 => k b (by omega), SLC_mv e6 fun b h1 h2 => k b (by omega), f, VIEW_off e7 k (by omega)⟩
theorem CLS_sl {h h' : HP} {x : Nat} {A : AB} (e : CLS h x A) (k : OFF (x + 291) 18 h h') {s : Option SG × Option SG} (v : SLC h' x s) : CLS h' x (A.1, A.2.1, s, A.2.2.2) := by
  obtain ⟨e0, e1, e2, e3, ⟨T, e4⟩, e5, e6, f, e7⟩ := e
  exact ⟨(k _ (by omega)).trans e0, CLN_off e1 k (by omega), TXT_off e2 k (by omega), STO_off e3 k (by omega), ⟨T, STO_off e4 k (by omega)⟩, HISC_mv e5 fun b h1 h2 => k b (by omega), v, f, VIEW_off e7 k (by omega)⟩
/-- the fields of the class's object -/
theorem CLS_g {h : HP} {x : Nat} {A : AB} (e : CLS h x A) : kO 7 h x = some () ∧ gR 7 0 h x = some (x + 159) ∧ gR 7 1 h x = some (x + 161) ∧ gR 7 2 h x = some (x + 169) ∧ gR 7 3 h x = some (x + 177) ∧ gR 7 4 h x = some (x + 291) ∧ gR 7 5 h x = some (x + 308) ∧ gR 7 6 h x = some (x + 309) := by
  obtain ⟨e0, -⟩ := e
  exact ⟨kO_e e0, gR_e e0 rfl, gR_e e0 rfl, gR_e e0 rfl, gR_e e0 rfl, gR_e e0 rfl, gR_e e0 rfl, gR_e e0 rfl⟩
theorem CLS_S {h : HP} {x : Nat} {A : AB} (e : CLS h x A) : STO h (x + 1) (x + 161) 48 A.1 := e.2.2.2.1
theorem CLS_T {h : HP} {x : Nat} {A : AB} (e : CLS h x A) : TXT h (x + 159) A.2.2.2 := e.2.2.1
/-- a slot of the reference -/
def SLR (sl : Nat → Int32) (z : Nat → Int32) (s : Option SG × Option SG) : Prop := z 0 = tB (s.1.isSome = true) ∧ z 1 = tB (s.2.isSome = true) ∧ (∀ U, s.1 = some U → RW (fun i => sl (204 * 0 + i)) U) ∧ ∀ U, s.2 = some U → RW (fun i => sl (204 * 1 + i)) U
/-- the reference's object at m -/
def RFS (h : HP) (m : Nat) (A : AB) : Prop := ∃ v, MOB h m v ∧ REF h m A.1 ∧ ALO h m ∧ (∃ g, ARR h (m + 2) 204 g) ∧ HIS h m A.2.1 ∧ (∃ sl z, ARR h (m + 4) 408 sl ∧ h (m + 5) = some (.inl (1, 2, .inl z)) ∧ SLR sl z A.2.2.1) ∧ RTX h m v A.2.2.2
theorem REF_mv {h h' : HP} {m : Nat} {S : SG} (e : REF h m S) (k : h' (m + 1) = h (m + 1)) {v : Nat → Int32} (e0 : MOB h' m v) : REF h' m S := by
  obtain ⟨v', f, -, k1, q⟩ := e
  exact ⟨v, f, e0, k.trans k1, q⟩
theorem HIS_mv {h h' : HP} {m : Nat} {l : List SG} {v : Nat → Int32} (e0 : MOB h m v) (e : HIS h m l) (k : h' (m + 3) = h (m + 3)) {v' : Nat → Int32} (e1 : MOB h' m v') (h4 : v' 4 = v 4) : HIS h' m l := by
  obtain ⟨w, f, k0, k1, k2, k3, k4⟩ := e
  exact ⟨v', f, e1, k.trans k1, h4.trans ((MOB_4 e0 k0).trans k2), k3, k4⟩
theorem REF_off {h h' : HP} {m a n : Nat} {S : SG} (e : REF h m S) (k : OFF a n h h') (d : m + 2 ≤ a ∨ a + n ≤ m) : REF h' m S := by
  obtain ⟨v', f, k0, k1, q⟩ := e
  exact ⟨v', f, (k _ (by omega)).trans k0, (k _ (by omega)).trans k1, q⟩
theorem HIS_off {h h' : HP} {m a n : Nat} {l : List SG} (e : HIS h m l) (k : OFF a n h h') (d : m + 9 ≤ a ∨ a + n ≤ m) : HIS h' m l := by
  obtain ⟨w, f, k0, k1, r⟩ := e
  exact ⟨w, f, (k _ (by omega)).trans k0, (k _ (by omega)).trans k1, r⟩
theorem RFS_off {h h' : HP} {m a n : Nat} {A : AB} (e : RFS h m A) (k : OFF a n h h') (d : m + 9 ≤ a ∨ a + n ≤ m) : RFS h' m A := by
  obtain ⟨v, e0, e1, e2, ⟨g, e3⟩, e4, ⟨sl, z, e5, e6, e7⟩, e8⟩ := e
  exact ⟨v, (k _ (by omega)).trans e0, REF_off e1 k (by omega), ALO_off e2 k (by omega), ⟨g, (k _ (by omega)).trans e3⟩, HIS_off e4 k (by omega), ⟨sl, z, (k _ (by omega)).trans e5, (k _ (by omega)).trans e6, e7⟩, RTX_mv e8 (k _ (by omega)) rfl⟩
/-- changes in the numbers of the reference's object that say nothing of the state -/
theorem RFS_4 {h h' : HP} {m : Nat} {A : AB} {S : SG} {v v' : Nat → Int32} (e : RFS h m A) (e0 : MOB h m v) (k : OF4 m h h') (k0 : MOB h' m v') (h4 : v' 4 = v 4) (h8 : v' 8 = v 8) (r : REF h' m S) (al : ALO h' m) : RFS h' m (S, A.2) := by
  obtain ⟨w, e1, e2, e3, ⟨g, e4⟩, e5, ⟨sl, z, e6, e7, e8⟩, e9⟩ := e
  have hw8 : w 8 = v 8 := by
    have h2 : (mrow m w)[8]? = (mrow m v)[8]? := by rw [MOB_row e1 e0]
    exact Value.int.inj (Option.some.inj h2)
  refine ⟨v', k0, r, al, ⟨g, (k _ (by omega) (by omega) (by omega) (by omega)).trans e4⟩, HIS_mv e0 e5 (k _ (by omega) (by omega) (by omega) (by omega)) k0 h4, ⟨sl, z, (k _ (by omega) (by omega) (by omega) (by omega)).trans e6, (k _ (by omega) (by omega) (by omega) (by omega)).trans e7, e8⟩, RTX_mv e9 (k _ (by omega) (by omega) (by omega) (by omega)) (h8.trans hw8.symm)⟩
theorem OF4_f {m : Nat} {h h' : HP} (e : OF4 m h h') : OFF m 9 h h' := fun b hb => e b (by omega) (by omega) (by omega) (by omega)
/-- all is as it should be -/
def AOK (A : AB) (M : Int) : Prop := GOK A.1 M ∧ (∀ T ∈ A.2.1, GOK T M) ∧ (∀ T, A.2.2.1.1 = some T → GOK T M) ∧ ∀ T, A.2.2.1.2 = some T → GOK T M
theorem AOK_up {A : AB} {M M' : Int} (H : AOK A M) (h : M ≤ M' ∧ M' < 1000000) : AOK A M' := ⟨GOK_up H.1 h, fun T hT => GOK_up (H.2.1 T hT) h, fun T hT => GOK_up (H.2.2.1 T hT) h, fun T hT => GOK_up (H.2.2.2 T hT) h⟩
