theorem X7_slot {x : Nat} {h : HP} {n i bc bs : Nat} {fs : List Value} (hfs : fs[4]? = some (.ref (x + 291))) (e0 : h x = some (.inr (7, fs))) {G : Nat → Option Nat} (e1 : h (x + 291) = some (.inl (4, 2, .inr (.inr (.inr (.inr G)))))) (hi : i < 2) (hbc : 8 ≤ bc) (hbs : 1413 ≤ bs) {P : HP × Nat → Prop} (k : ∀ h', h' (x + 291) = some (.inl (4, 2, .inr (.inr (.inr (.inr (fun j => if j = i then some (x + 292 + 8 * i) else G j)))))) → STO h' (x + 1) (x + 292 + 8 * i) 48 emp → (∀ b, b ≠ x + 291 → (b < x + 292 + 8 * i ∨ x + 300 + 8 * i ≤ b) → h' b = h b) → WP (b_X7_init_74 x n h' (x + 300 + 8 * i) (bc - 8) (bs - 1413) (x + 1) (zI ((i + 1 : Nat) : Int))) P) : WP (b_X7_init_74 x (n + 1) h (x + 292 + 8 * i) bc bs (x + 1) (zI i)) P := by
  unfold b_X7_init_74 c_X7_init_74
  rw [show (2 : Int32) = zI 2 by decide]
  refine wf (fun d => absurd ((zI_le (by omega)).mp d) (by omega)) ?_
  refine wb (gR_e e0 hfs) ?_
  refine wb (tk_is (by omega)) ?_
  refine wb (tk_is (by omega)) ?_
  refine newO fun h1 f1 k1 => ?_
  refine wb (tk_is (by omega)) ?_
  refine wb (tk_is (by omega)) ?_
  refine wpb (X3_init_is (cl := x + 1) (cap := 48) f1 (by omega) rfl) ?_
  rintro ⟨h2, y⟩ ⟨q1, q2, q3⟩
  dsimp only at q1 q2 q3 ⊢
  subst q1
  have o2 : OFF (x + 292 + 8 * i) 8 h h2 := OFF_trans (OFF_wide k1 (by omega)) q3
  have q2c := q2
  obtain ⟨fe, fy, s0, -⟩ := q2c
  refine wb (wR_e ((o2 _ (by omega)).trans e1) (by omega) (kO_e s0)) ?_
  have o3 : OFF (x + 291) 1 h2 (hup h2 (x + 291) (.inl (4, 2, .inr (.inr (.inr (.inr (fun j => if j = (i : Int).toNat then some (x + 292 + 8 * i) else G j))))))) := OFF_up (OFF_refl _ _ _) (by omega)
  have f3 := hup_same h2 (x + 291) (.inl (4, 2, .inr (.inr (.inr (.inr (fun j => if j = (i : Int).toNat then some (x + 292 + 8 * i) else G j))))))
  generalize hup h2 (x + 291) _ = h3 at *
  have := k h3 f3 (STO_off q2 o3 (by omega)) (fun b b1 b2 => (o3 _ (by omega)).trans (o2 _ (by omega)))
  rw [show bc - 8 = bc - 1 - 7 by omega, show bs - 1413 = bs - 8 - 1405 by omega, show x + 300 + 8 * i = x + 292 + 8 * i + 8 by omega, cast1] at this
  rw [zl1, zI_add]
  exact this
theorem X7_init_is {h : HP} {x : Nat} (e : h x = some (.inr (7, [.null, .null, .null, .null, .null, .null, .null]))) : WP (f_X7_init h (x + 1) x) (fun r => r.2 = x + 311 ∧ CLS r.1 x (emp, [], (none, none), []) ∧ OFF x 311 h r.1) := by
  unfold f_X7_init b_X7_init_0
  refine wb (tk_is (by omega)) ?_
  refine wb (tk_is (by omega)) ?_
  refine newO fun h1 e1 k1 => ?_
  refine wb (tk_is (by omega)) ?_
  refine wb (tk_is (by omega)) ?_
  refine wpb (X0_init_is e1) ?_
  rintro ⟨h2, y⟩ ⟨q1, q2, q3⟩
  dsimp only at q1 q2 q3 ⊢
  subst q1
  rw [show x + 1 + 158 = x + 159 by omega]
  refine wb (tk_is (by omega)) ?_
  refine wb (tk_is (by omega)) ?_
  refine newO fun h3 e3 k3 => ?_
  refine wb (tk_is (by omega)) ?_
  refine wb (tk_is (by omega)) ?_
  refine wpb (X4_init_is e3) ?_
  rintro ⟨h4, y⟩ ⟨q4, q5, q6⟩
  dsimp only at q4 q5 q6 ⊢
  subst q4
  rw [show x + 159 + 2 = x + 161 by omega]
  refine setR ((q6 _ (by omega)).trans ((k3 _ (by omega)).trans ((q3 _ (by omega)).trans ((k1 _ (by omega)).trans e)))) (by simp) rfl fun h5 e5 k5 => ?_
  refine wb (tk_is (by omega)) ?_
  refine wb (tk_is (by omega)) ?_
  refine newO fun h6 e6 k6 => ?_
  refine wb (tk_is (by omega)) ?_
  refine wb (tk_is (by omega)) ?_
  refine wpb (X3_init_is (cl := x + 1) (cap := 48) e6 (by omega) rfl) ?_
  rintro ⟨h7, y⟩ ⟨q7, q8, q9⟩
  dsimp only at q7 q8 q9 ⊢
  subst q7
  rw [show x + 161 + 8 = x + 169 by omega]
  refine setR ((q9 _ (by omega)).trans ((k6 _ (by omega)).trans e5)) (by simp) rfl fun h8 e8 k8 => ?_
  refine wb (tk_is (by omega)) ?_
  refine wb (tk_is (by omega)) ?_
  refine newO fun h9 e9 k9 => ?_
  refine wb (tk_is (by omega)) ?_
  refine wb (tk_is (by omega)) ?_
  refine wpb (X3_init_is (cl := x + 1) (cap := 148) e9 (by omega) rfl) ?_
  rintro ⟨h10, y⟩ ⟨q10, q11, q12⟩
  dsimp only at q10 q11 q12 ⊢
  subst q10
  rw [show x + 169 + 8 = x + 177 by omega]
  refine setR ((q12 _ (by omega)).trans ((k9 _ (by omega)).trans e8)) (by simp) rfl fun h11 e11 k11 => ?_
  refine wb (tk_is (by omega)) ?_
  refine wb (tk_is (by omega)) ?_
  refine newO fun h12 e12 k12 => ?_
  refine wb (tk_is (by omega)) ?_
  refine wb (tk_is (by omega)) ?_
  refine wpb (X1_init_is (cl := x + 1) e12) ?_
  rintro ⟨h13, y⟩ ⟨q13, q14, q15⟩
  dsimp only at q13 q14 q15 ⊢
  subst q13
  rw [show x + 177 + 114 = x + 291 by omega]
  refine setR ((q15 _ (by omega)).trans ((k12 _ (by omega)).trans e11)) (by simp) rfl fun h14 e14 k14 => ?_
  refine wb (alN_is (n := 2) (by omega) (by omega) (by omega)) ?_
  refine newR (n := 2) (fs2 := [.ref (x + 159), .ref (x + 161), .ref (x + 169), .ref (x + 177), .ref (x + 291), .null, .null]) rfl (by omega) e14 (by simp) rfl (by omega) fun h15 e15 a15 k15 => ?_
  -- all before the slots, as it stands in h15
  have o5 : OFF (x + 159) 2 h2 h4 := OFF_trans (OFF_wide k3 (by omega)) q6
  have c15 : CLN h15 (x + 1) := CLN_mv q2 fun b b1 b2 => (k15 _ (by omega) (by omega)).trans ((k14 _ (by omega)).trans ((q15 _ (by omega)).trans ((k12 _ (by omega)).trans ((k11 _ (by omega)).trans ((q12 _ (by omega)).trans ((k9 _ (by omega)).trans ((k8 _ (by omega)).trans ((q9 _ (by omega)).trans ((k6 _ (by omega)).trans ((k5 _ (by omega)).trans ((o5 _ (by omega)))))))))))))
  have t15 : TXT h15 (x + 159) [] := TXT_mv q5 fun b b1 b2 => (k15 _ (by omega) (by omega)).trans ((k14 _ (by omega)).trans ((q15 _ (by omega)).trans ((k12 _ (by omega)).trans ((k11 _ (by omega)).trans ((q12 _ (by omega)).trans ((k9 _ (by omega)).trans ((k8 _ (by omega)).trans ((q9 _ (by omega)).trans ((k6 _ (by omega)).trans ((k5 _ (by omega))))))))))))
  have s15 : STO h15 (x + 1) (x + 161) 48 emp := STO_mv q8 fun b b1 b2 => (k15 _ (by omega) (by omega)).trans ((k14 _ (by omega)).trans ((q15 _ (by omega)).trans ((k12 _ (by omega)).trans ((k11 _ (by omega)).trans ((q12 _ (by omega)).trans ((k9 _ (by omega)).trans ((k8 _ (by omega)))))))))
  have r15 : STO h15 (x + 1) (x + 169) 148 emp := STO_mv q11 fun b b1 b2 => (k15 _ (by omega) (by omega)).trans ((k14 _ (by omega)).trans ((q15 _ (by omega)).trans ((k12 _ (by omega)).trans ((k11 _ (by omega))))))
  have i15 : HISC h15 (x + 1) (x + 177) [] := HISC_mv q14 fun b b1 b2 => (k15 _ (by omega) (by omega)).trans (k14 _ (by omega))
  have o15 : OFF x 311 h h15 := fun b hb => (k15 _ (by omega) (by omega)).trans ((k14 _ (by omega)).trans ((q15 _ (by omega)).trans ((k12 _ (by omega)).trans ((k11 _ (by omega)).trans ((q12 _ (by omega)).trans ((k9 _ (by omega)).trans ((k8 _ (by omega)).trans ((q9 _ (by omega)).trans ((k6 _ (by omega)).trans ((k5 _ (by omega)).trans ((o5 _ (by omega)).trans ((q3 _ (by omega)).trans ((k1 _ (by omega)))))))))))))))
  rw [show FU = 4093 + 1 + 1 + 1 from rfl]
  refine X7_slot (i := 0) (fs := [.ref (x + 159), .ref (x + 161), .ref (x + 169), .ref (x + 177), .ref (x + 291), .null, .null]) rfl e15 a15 (by omega) (by omega) (by omega) fun h16 a16 s16 k16 => ?_
  refine X7_slot (i := 1) (fs := [.ref (x + 159), .ref (x + 161), .ref (x + 169), .ref (x + 177), .ref (x + 291), .null, .null]) rfl ((k16 _ (by omega) (by omega)).trans e15) a16 (by omega) (by omega) (by omega) fun h17 a17 s17 k17 => ?_
  have k17' : ∀ b, b < x + 291 ∨ x + 308 ≤ b → h17 b = h15 b := fun b hb => (k17 _ (by omega) (by omega)).trans (k16 _ (by omega) (by omega))
  unfold b_X7_init_74 c_X7_init_74
  refine wt (by decide) ?_
  refine wb (alN_is (n := 2) (by omega) (by omega) (by omega)) ?_
  refine newZ (n := 2) rfl (by omega) ((k17' _ (by omega)).trans e15) (by simp) rfl (by omega) fun h18 e18 a18 k18 => ?_
  refine wb (tk_is (by omega)) ?_
  refine wb (tk_is (by omega)) ?_
  refine newO fun h19 e19 k19 => ?_
  refine wb (tk_is (by omega)) ?_
  refine wb (tk_is (by omega)) ?_
  refine wpb (X5_init_is e19) ?_
  rintro ⟨h20, y⟩ ⟨q20, q21, q22⟩
  dsimp only at q20 q21 q22 ⊢
  subst q20
  refine setR (fs2 := xrow x) ((q22 _ (by omega)).trans ((k19 _ (by omega)).trans e18)) (by simp) rfl fun h21 e21 k21 => ?_
  have far : ∀ b, b ≠ x → b < x + 308 → h21 b = h17 b := fun b b1 b2 => (k21 _ (by omega)).trans ((q22 _ (by omega)).trans ((k19 _ (by omega)).trans (k18 _ (by omega) (by omega))))
  have far2 : ∀ b, b ≠ x → b < x + 291 → h21 b = h15 b := fun b b1 b2 => (far b b1 (by omega)).trans (k17' _ (by omega))
  refine wr ⟨rfl, ⟨e21, CLN_mv c15 fun b b1 b2 => far2 b (by omega) (by omega), TXT_mv t15 fun b b1 b2 => far2 b (by omega) (by omega), STO_mv s15 fun b b1 b2 => far2 b (by omega) (by omega), ⟨_, STO_mv r15 fun b b1 b2 => far2 b (by omega) (by omega)⟩, HISC_mv i15 fun b b1 b2 => far2 b (by omega) (by omega), ⟨_, _, (far _ (by omega) (by omega)).trans a17, ⟨rfl, rfl⟩, (k21 _ (by omega)).trans ((q22 _ (by omega)).trans ((k19 _ (by omega)).trans a18)), ⟨(tB_0 (by simp)).symm, (tB_0 (by simp)).symm⟩, ⟨_, STO_mv s16 fun b b1 b2 => (far _ (by omega) (by omega)).trans (k17 _ (by omega) (by omega)), fun U hU => absurd hU (by simp)⟩, _, STO_mv s17 fun b b1 b2 => far _ (by omega) (by omega), fun U hU => absurd hU (by simp)⟩, ⟨_, VIEW_off q21 k21 (by omega)⟩⟩, fun b hb => ?_⟩
  exact (k21 _ (by omega)).trans ((q22 _ (by omega)).trans ((k19 _ (by omega)).trans ((k18 _ (by omega) (by omega)).trans ((k17' _ (by omega)).trans (o15 _ (by omega))))))
