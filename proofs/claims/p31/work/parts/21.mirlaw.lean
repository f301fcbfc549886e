def sL (L : Nat) (xs : Nat → Int32) (i : Int32) : Option Int32 := if i < 0 ∨ L ≤ i.toNatClampNeg then none else some (xs i.toNatClampNeg)
theorem sL_spec {L : Nat} {xs : Nat → Int32} {i x : Int32} (e : sL L xs i = some x) : vp_in i L ∧ xs i.toNatClampNeg = x := by
  unfold sL at e
  split at e
  · cases e
  · rename_i hc
    exact ⟨hc, Option.some.inj e⟩
theorem dL_cell_0 : decode (mB M_L_cell) 0 = .ok (.iload_n 1, 1) := by decide +kernel
theorem dL_cell_1 : decode (mB M_L_cell) 1 = .ok (.aload_n 0, 1) := by decide +kernel
theorem dL_cell_2 : decode (mB M_L_cell) 2 = .ok (.arraylength, 1) := by decide +kernel
theorem dL_cell_3 : decode (mB M_L_cell) 3 = .ok (.if_icmp .ge 9, 3) := by decide +kernel
theorem dL_cell_6 : decode (mB M_L_cell) 6 = .ok (.aload_n 0, 1) := by decide +kernel
theorem dL_cell_7 : decode (mB M_L_cell) 7 = .ok (.iload_n 1, 1) := by decide +kernel
theorem dL_cell_8 : decode (mB M_L_cell) 8 = .ok (.iaload, 1) := by decide +kernel
theorem dL_cell_9 : decode (mB M_L_cell) 9 = .ok (.goto 15, 3) := by decide +kernel
theorem dL_cell_12 : decode (mB M_L_cell) 12 = .ok (.sipush 7919, 3) := by decide +kernel
theorem dL_cell_15 : decode (mB M_L_cell) 15 = .ok (.iload_n 1, 1) := by decide +kernel
theorem dL_cell_16 : decode (mB M_L_cell) 16 = .ok (.iconst 3, 1) := by decide +kernel
theorem dL_cell_17 : decode (mB M_L_cell) 17 = .ok (.iadd, 1) := by decide +kernel
theorem dL_cell_18 : decode (mB M_L_cell) 18 = .ok (.imul, 1) := by decide +kernel
theorem dL_cell_19 : decode (mB M_L_cell) 19 = .ok (.iload_n 1, 1) := by decide +kernel
theorem dL_cell_20 : decode (mB M_L_cell) 20 = .ok (.bipush 11, 2) := by decide +kernel
theorem dL_cell_22 : decode (mB M_L_cell) 22 = .ok (.iadd, 1) := by decide +kernel
theorem dL_cell_23 : decode (mB M_L_cell) 23 = .ok (.imul, 1) := by decide +kernel
theorem dL_cell_24 : decode (mB M_L_cell) 24 = .ok (.ireturn, 1) := by decide +kernel
def b_L_cell_0 (h : HP) (L : Nat) (xs : Nat → Int32) (v0 : Nat) (v1 : Int32) : Option (Int32) :=
  if (Int32.ofNat L) ≤ v1 then some ((7919 * (v1 + 3)) * (v1 + 11)) else (sL L xs v1).bind fun x2 => some (x2)
def f_L_cell (h : HP) (L : Nat) (xs : Nat → Int32) (v0 : Nat) (v1 : Int32) : Option Int32 := b_L_cell_0 h L xs v0 v1
theorem w_L_cell_0 {l : Launch} {X : SCR} {Q : PST} {bc bs : Nat} {res : Int32} {h : HP} (hQ : ∀ sz', Q (.inl (some (.int res))) h sz') {L : Nat} {xs : Nat → Int32} {v0 : Nat} {v1 : Int32} (hX : X.1 = some (v0, L, xs)) {sz : Nat} (hf : b_L_cell_0 h L xs v0 v1  = some res) : SP l X M_L_cell 0 [(0, .ref v0), (1, .int v1)] [] h sz bc bs Q := by
  rw [b_L_cell_0] at hf
  refine sp_iload_n (pc := 0) dL_cell_0 1 rfl ?_
  refine sp_aload_n (pc := 1) dL_cell_1 0 rfl ?_
  refine sp_slen (pc := 2) hX dL_cell_2 ?_
  refine sp_icmp_ge (pc := 3) (tgt := 12) dL_cell_3 (by decide) (fun c1 => ?_) (fun c1 => ?_)
  · rw [if_pos c1] at hf
    refine sp_sipush (pc := 12) (v := 7919) dL_cell_12 (by decide) ?_
    refine sp_iload_n (pc := 15) dL_cell_15 1 rfl ?_
    refine sp_iconst (pc := 16) (v := 3) dL_cell_16 (by decide) ?_
    refine sp_iadd (pc := 17) dL_cell_17 ?_
    refine sp_imul (pc := 18) dL_cell_18 ?_
    refine sp_iload_n (pc := 19) dL_cell_19 1 rfl ?_
    refine sp_bipush (pc := 20) (v := 11) dL_cell_20 (by decide) ?_
    refine sp_iadd (pc := 22) dL_cell_22 ?_
    refine sp_imul (pc := 23) dL_cell_23 ?_
    obtain rfl := Option.some.inj hf
    exact sp_ireturn (pc := 24) dL_cell_24 rfl rfl (hQ _)
  · rw [if_neg c1] at hf
    refine sp_aload_n (pc := 6) dL_cell_6 0 rfl ?_
    refine sp_iload_n (pc := 7) dL_cell_7 1 rfl ?_
    obtain ⟨x2, ex2, hf⟩ := ob hf
    obtain ⟨g1x2, g2x2⟩ := sL_spec ex2
    refine sp_sld (pc := 8) hX dL_cell_8 g1x2 ?_
    rw [g2x2]
    refine sp_goto (pc := 9) (tgt := 24) dL_cell_9 (by decide) ?_
    obtain rfl := Option.some.inj hf
    exact sp_ireturn (pc := 24) dL_cell_24 rfl rfl (hQ _)

theorem m_L_cell {l : Launch} {Q : PST} {h : HP} {L : Nat} {xs : Nat → Int32} {v0 : Nat} {v1 : Int32} {sz : Nat} {res : Int32} (hQ : ∀ sz', Q (.inl (some (.int res))) h sz') (hf : f_L_cell h L xs v0 v1 = some res) : MMS l M_L_cell [.ref v0, .int v1] v0 L xs h sz Q := by
  rw [f_L_cell] at hf
  exact MMS_of wok_L_cell (by decide +kernel) (Nat.le_of_ble_eq_true rfl) (w_L_cell_0 hQ rfl hf)

theorem dL_low_0 : decode (mB M_L_low) 0 = .ok (.iload_n 0, 1) := by decide +kernel
theorem dL_low_1 : decode (mB M_L_low) 1 = .ok (.ldc 7, 2) := by decide +kernel
theorem dL_low_3 : decode (mB M_L_low) 3 = .ok (.iand, 1) := by decide +kernel
theorem dL_low_4 : decode (mB M_L_low) 4 = .ok (.iload_n 1, 1) := by decide +kernel
theorem dL_low_5 : decode (mB M_L_low) 5 = .ok (.irem, 1) := by decide +kernel
theorem dL_low_6 : decode (mB M_L_low) 6 = .ok (.ireturn, 1) := by decide +kernel
def b_L_low_0 (h : HP) (v0 : Int32) (v1 : Int32) : Option (Int32) :=
  if v1 = 0 then none else some (jrem (v0 &&& 2147483647) v1)
def f_L_low (h : HP) (v0 : Int32) (v1 : Int32) : Option (Int32) := b_L_low_0 h v0 v1
theorem w_L_low_0 {l : Launch} {X : SCR} {Q : PST} {bc bs : Nat} {res : Int32} {h : HP} (hQ : ∀ sz', Q (.inl (some (.int res))) h sz') {v0 : Int32} {v1 : Int32} {sz : Nat} (hf : b_L_low_0 h v0 v1  = some res) : SP l X M_L_low 0 [(0, .int v0), (1, .int v1)] [] h sz bc bs Q := by
  rw [b_L_low_0] at hf
  refine sp_iload_n (pc := 0) dL_low_0 0 rfl ?_
  refine sp_ldc (pc := 1) dL_low_1 bk_449 ?_
  refine sp_iand (pc := 3) dL_low_3 ?_
  refine sp_iload_n (pc := 4) dL_low_4 1 rfl ?_
  by_cases z1 : v1 = 0
  · rw [if_pos z1] at hf; cases hf
  rw [if_neg z1] at hf
  refine sp_iremJ (pc := 5) dL_low_5 z1 ?_
  obtain rfl := Option.some.inj hf
  exact sp_ireturn (pc := 6) dL_low_6 rfl rfl (hQ _)

theorem m_L_low {l : Launch} {Q : PST} {h : HP} {v0 : Int32} {v1 : Int32} {sz : Nat} {res : Int32} (hQ : ∀ sz', Q (.inl (some (.int res))) h sz') (hf : f_L_low h v0 v1 = some res) : MM l M_L_low [.int v0, .int v1] h sz Q := by
  rw [f_L_low] at hf
  exact MM_of wok_L_low (by decide +kernel) (Nat.le_of_ble_eq_true rfl) ((w_L_low_0 hQ hf))

theorem dL_does_0 : decode (mB M_L_does) 0 = .ok (.aload_n 0, 1) := by decide +kernel
theorem dL_does_1 : decode (mB M_L_does) 1 = .ok (.iconst 1, 1) := by decide +kernel
theorem dL_does_2 : decode (mB M_L_does) 2 = .ok (.invokevirtual 8, 3) := by decide +kernel
theorem dL_does_5 : decode (mB M_L_does) 5 = .ok (.bipush 7, 2) := by decide +kernel
theorem dL_does_7 : decode (mB M_L_does) 7 = .ok (.if_icmp .ge 14, 3) := by decide +kernel
theorem dL_does_10 : decode (mB M_L_does) 10 = .ok (.bipush 48, 2) := by decide +kernel
theorem dL_does_12 : decode (mB M_L_does) 12 = .ok (.aload_n 0, 1) := by decide +kernel
theorem dL_does_13 : decode (mB M_L_does) 13 = .ok (.iconst 4, 1) := by decide +kernel
theorem dL_does_14 : decode (mB M_L_does) 14 = .ok (.invokevirtual 8, 3) := by decide +kernel
theorem dL_does_17 : decode (mB M_L_does) 17 = .ok (.isub, 1) := by decide +kernel
theorem dL_does_18 : decode (mB M_L_does) 18 = .ok (.goto 4, 3) := by decide +kernel
theorem dL_does_21 : decode (mB M_L_does) 21 = .ok (.iconst 0, 1) := by decide +kernel
theorem dL_does_22 : decode (mB M_L_does) 22 = .ok (.istore_n 2, 1) := by decide +kernel
theorem dL_does_23 : decode (mB M_L_does) 23 = .ok (.iload_n 1, 1) := by decide +kernel
theorem dL_does_24 : decode (mB M_L_does) 24 = .ok (.iconst 4, 1) := by decide +kernel
theorem dL_does_25 : decode (mB M_L_does) 25 = .ok (.ishr, 1) := by decide +kernel
theorem dL_does_26 : decode (mB M_L_does) 26 = .ok (.bipush 40, 2) := by decide +kernel
theorem dL_does_28 : decode (mB M_L_does) 28 = .ok (.invokestatic 14, 3) := by decide +kernel
theorem dL_does_31 : decode (mB M_L_does) 31 = .ok (.istore_n 3, 1) := by decide +kernel
theorem dL_does_32 : decode (mB M_L_does) 32 = .ok (.aload_n 0, 1) := by decide +kernel
theorem dL_does_33 : decode (mB M_L_does) 33 = .ok (.iconst 2, 1) := by decide +kernel
theorem dL_does_34 : decode (mB M_L_does) 34 = .ok (.invokevirtual 8, 3) := by decide +kernel
theorem dL_does_37 : decode (mB M_L_does) 37 = .ok (.istore 4, 2) := by decide +kernel
theorem dL_does_39 : decode (mB M_L_does) 39 = .ok (.iload_n 1, 1) := by decide +kernel
theorem dL_does_40 : decode (mB M_L_does) 40 = .ok (.bipush 15, 2) := by decide +kernel
theorem dL_does_42 : decode (mB M_L_does) 42 = .ok (.iand, 1) := by decide +kernel
theorem dL_does_43 : decode (mB M_L_does) 43 = .ok (.tableswitch 215 0 12 #[65, 65, 65, 65, 65, 91, 91, 91, 116, 116, 116, 163, 189], 65) := by decide +kernel
theorem dL_does_108 : decode (mB M_L_does) 108 = .ok (.iload_n 2, 1) := by decide +kernel
theorem dL_does_109 : decode (mB M_L_does) 109 = .ok (.ifCond .le 23, 3) := by decide +kernel
theorem dL_does_112 : decode (mB M_L_does) 112 = .ok (.aload_n 0, 1) := by decide +kernel
theorem dL_does_113 : decode (mB M_L_does) 113 = .ok (.iload_n 3, 1) := by decide +kernel
theorem dL_does_114 : decode (mB M_L_does) 114 = .ok (.iconst 1, 1) := by decide +kernel
theorem dL_does_115 : decode (mB M_L_does) 115 = .ok (.iload_n 1, 1) := by decide +kernel
theorem dL_does_116 : decode (mB M_L_does) 116 = .ok (.bipush 10, 2) := by decide +kernel
theorem dL_does_118 : decode (mB M_L_does) 118 = .ok (.ishr, 1) := by decide +kernel
theorem dL_does_119 : decode (mB M_L_does) 119 = .ok (.sipush 999, 3) := by decide +kernel
theorem dL_does_122 : decode (mB M_L_does) 122 = .ok (.invokestatic 14, 3) := by decide +kernel
theorem dL_does_125 : decode (mB M_L_does) 125 = .ok (.iadd, 1) := by decide +kernel
theorem dL_does_126 : decode (mB M_L_does) 126 = .ok (.invokevirtual 20, 3) := by decide +kernel
theorem dL_does_129 : decode (mB M_L_does) 129 = .ok (.goto 4, 3) := by decide +kernel
theorem dL_does_132 : decode (mB M_L_does) 132 = .ok (.iconst 0, 1) := by decide +kernel
theorem dL_does_133 : decode (mB M_L_does) 133 = .ok (.ireturn, 1) := by decide +kernel
theorem dL_does_134 : decode (mB M_L_does) 134 = .ok (.iload_n 2, 1) := by decide +kernel
theorem dL_does_135 : decode (mB M_L_does) 135 = .ok (.ifCond .le 22, 3) := by decide +kernel
theorem dL_does_138 : decode (mB M_L_does) 138 = .ok (.aload_n 0, 1) := by decide +kernel
theorem dL_does_139 : decode (mB M_L_does) 139 = .ok (.iload_n 3, 1) := by decide +kernel
theorem dL_does_140 : decode (mB M_L_does) 140 = .ok (.iload_n 3, 1) := by decide +kernel
theorem dL_does_141 : decode (mB M_L_does) 141 = .ok (.iload_n 1, 1) := by decide +kernel
theorem dL_does_142 : decode (mB M_L_does) 142 = .ok (.bipush 10, 2) := by decide +kernel
theorem dL_does_144 : decode (mB M_L_does) 144 = .ok (.ishr, 1) := by decide +kernel
theorem dL_does_145 : decode (mB M_L_does) 145 = .ok (.bipush 30, 2) := by decide +kernel
theorem dL_does_147 : decode (mB M_L_does) 147 = .ok (.invokestatic 14, 3) := by decide +kernel
theorem dL_does_150 : decode (mB M_L_does) 150 = .ok (.iadd, 1) := by decide +kernel
theorem dL_does_151 : decode (mB M_L_does) 151 = .ok (.invokevirtual 23, 3) := by decide +kernel
theorem dL_does_154 : decode (mB M_L_does) 154 = .ok (.goto 4, 3) := by decide +kernel
theorem dL_does_157 : decode (mB M_L_does) 157 = .ok (.iconst 0, 1) := by decide +kernel
theorem dL_does_158 : decode (mB M_L_does) 158 = .ok (.ireturn, 1) := by decide +kernel
theorem dL_does_159 : decode (mB M_L_does) 159 = .ok (.aload_n 0, 1) := by decide +kernel
theorem dL_does_160 : decode (mB M_L_does) 160 = .ok (.iconst 1, 1) := by decide +kernel
theorem dL_does_161 : decode (mB M_L_does) 161 = .ok (.invokevirtual 8, 3) := by decide +kernel
theorem dL_does_164 : decode (mB M_L_does) 164 = .ok (.ifCond .le 26, 3) := by decide +kernel
theorem dL_does_167 : decode (mB M_L_does) 167 = .ok (.iload 4, 2) := by decide +kernel
theorem dL_does_169 : decode (mB M_L_does) 169 = .ok (.iconst 5, 1) := by decide +kernel
theorem dL_does_170 : decode (mB M_L_does) 170 = .ok (.if_icmp .ge 20, 3) := by decide +kernel
theorem dL_does_173 : decode (mB M_L_does) 173 = .ok (.aload_n 0, 1) := by decide +kernel
theorem dL_does_174 : decode (mB M_L_does) 174 = .ok (.iconst 4, 1) := by decide +kernel
theorem dL_does_175 : decode (mB M_L_does) 175 = .ok (.invokevirtual 8, 3) := by decide +kernel
theorem dL_does_178 : decode (mB M_L_does) 178 = .ok (.bipush 28, 2) := by decide +kernel
theorem dL_does_180 : decode (mB M_L_does) 180 = .ok (.if_icmp .ge 10, 3) := by decide +kernel
theorem dL_does_183 : decode (mB M_L_does) 183 = .ok (.aload_n 0, 1) := by decide +kernel
theorem dL_does_184 : decode (mB M_L_does) 184 = .ok (.invokevirtual 26, 3) := by decide +kernel
theorem dL_does_187 : decode (mB M_L_does) 187 = .ok (.goto 18, 3) := by decide +kernel
theorem dL_does_190 : decode (mB M_L_does) 190 = .ok (.iload_n 2, 1) := by decide +kernel
theorem dL_does_191 : decode (mB M_L_does) 191 = .ok (.ifCond .le 13, 3) := by decide +kernel
theorem dL_does_194 : decode (mB M_L_does) 194 = .ok (.aload_n 0, 1) := by decide +kernel
theorem dL_does_195 : decode (mB M_L_does) 195 = .ok (.iload_n 3, 1) := by decide +kernel
theorem dL_does_196 : decode (mB M_L_does) 196 = .ok (.bipush 7, 2) := by decide +kernel
theorem dL_does_198 : decode (mB M_L_does) 198 = .ok (.invokevirtual 20, 3) := by decide +kernel
theorem dL_does_201 : decode (mB M_L_does) 201 = .ok (.goto 4, 3) := by decide +kernel
theorem dL_does_204 : decode (mB M_L_does) 204 = .ok (.iconst 0, 1) := by decide +kernel
theorem dL_does_205 : decode (mB M_L_does) 205 = .ok (.ireturn, 1) := by decide +kernel
theorem dL_does_206 : decode (mB M_L_does) 206 = .ok (.aload_n 0, 1) := by decide +kernel
theorem dL_does_207 : decode (mB M_L_does) 207 = .ok (.iconst 3, 1) := by decide +kernel
theorem dL_does_208 : decode (mB M_L_does) 208 = .ok (.invokevirtual 8, 3) := by decide +kernel
theorem dL_does_211 : decode (mB M_L_does) 211 = .ok (.iconst 2, 1) := by decide +kernel
theorem dL_does_212 : decode (mB M_L_does) 212 = .ok (.if_icmp .ge 10, 3) := by decide +kernel
theorem dL_does_215 : decode (mB M_L_does) 215 = .ok (.aload_n 0, 1) := by decide +kernel
theorem dL_does_216 : decode (mB M_L_does) 216 = .ok (.invokevirtual 30, 3) := by decide +kernel
theorem dL_does_219 : decode (mB M_L_does) 219 = .ok (.goto 12, 3) := by decide +kernel
theorem dL_does_222 : decode (mB M_L_does) 222 = .ok (.aload_n 0, 1) := by decide +kernel
theorem dL_does_223 : decode (mB M_L_does) 223 = .ok (.iload_n 1, 1) := by decide +kernel
theorem dL_does_224 : decode (mB M_L_does) 224 = .ok (.iconst 4, 1) := by decide +kernel
theorem dL_does_225 : decode (mB M_L_does) 225 = .ok (.ishr, 1) := by decide +kernel
theorem dL_does_226 : decode (mB M_L_does) 226 = .ok (.iconst 1, 1) := by decide +kernel
theorem dL_does_227 : decode (mB M_L_does) 227 = .ok (.iand, 1) := by decide +kernel
theorem dL_does_228 : decode (mB M_L_does) 228 = .ok (.invokevirtual 33, 3) := by decide +kernel
theorem dL_does_231 : decode (mB M_L_does) 231 = .ok (.ireturn, 1) := by decide +kernel
theorem dL_does_232 : decode (mB M_L_does) 232 = .ok (.aload_n 0, 1) := by decide +kernel
theorem dL_does_233 : decode (mB M_L_does) 233 = .ok (.iconst 3, 1) := by decide +kernel
theorem dL_does_234 : decode (mB M_L_does) 234 = .ok (.invokevirtual 8, 3) := by decide +kernel
theorem dL_does_237 : decode (mB M_L_does) 237 = .ok (.ifCond .le 19, 3) := by decide +kernel
theorem dL_does_240 : decode (mB M_L_does) 240 = .ok (.iload_n 1, 1) := by decide +kernel
theorem dL_does_241 : decode (mB M_L_does) 241 = .ok (.iconst 4, 1) := by decide +kernel
theorem dL_does_242 : decode (mB M_L_does) 242 = .ok (.ishr, 1) := by decide +kernel
theorem dL_does_243 : decode (mB M_L_does) 243 = .ok (.iconst 1, 1) := by decide +kernel
theorem dL_does_244 : decode (mB M_L_does) 244 = .ok (.iand, 1) := by decide +kernel
theorem dL_does_245 : decode (mB M_L_does) 245 = .ok (.ifCond .ne 11, 3) := by decide +kernel
theorem dL_does_248 : decode (mB M_L_does) 248 = .ok (.aload_n 0, 1) := by decide +kernel
theorem dL_does_249 : decode (mB M_L_does) 249 = .ok (.iconst 0, 1) := by decide +kernel
theorem dL_does_250 : decode (mB M_L_does) 250 = .ok (.invokevirtual 33, 3) := by decide +kernel
theorem dL_does_253 : decode (mB M_L_does) 253 = .ok (.goto 4, 3) := by decide +kernel
theorem dL_does_256 : decode (mB M_L_does) 256 = .ok (.iconst 0, 1) := by decide +kernel
theorem dL_does_257 : decode (mB M_L_does) 257 = .ok (.ireturn, 1) := by decide +kernel
theorem dL_does_258 : decode (mB M_L_does) 258 = .ok (.aload_n 0, 1) := by decide +kernel
theorem dL_does_259 : decode (mB M_L_does) 259 = .ok (.invokevirtual 36, 3) := by decide +kernel
theorem dL_does_262 : decode (mB M_L_does) 262 = .ok (.istore 5, 2) := by decide +kernel
theorem dL_does_264 : decode (mB M_L_does) 264 = .ok (.iload 5, 2) := by decide +kernel
theorem dL_does_266 : decode (mB M_L_does) 266 = .ok (.ifCond .ge 7, 3) := by decide +kernel
theorem dL_does_269 : decode (mB M_L_does) 269 = .ok (.iconst 0, 1) := by decide +kernel
theorem dL_does_270 : decode (mB M_L_does) 270 = .ok (.goto 9, 3) := by decide +kernel
theorem dL_does_273 : decode (mB M_L_does) 273 = .ok (.aload_n 0, 1) := by decide +kernel
theorem dL_does_274 : decode (mB M_L_does) 274 = .ok (.iload 5, 2) := by decide +kernel
theorem dL_does_276 : decode (mB M_L_does) 276 = .ok (.invokevirtual 39, 3) := by decide +kernel
theorem dL_does_279 : decode (mB M_L_does) 279 = .ok (.ireturn, 1) := by decide +kernel
def b_L_does_190 (v0 : Nat) (h : HP) (v2 : Int32) (v3 : Int32) : Option (Int32 × HP) :=
  if v2 ≤ 0 then some (0, h) else (f_X7_put h v0 v3 7).bind fun y2 => (rt y2.1).bind fun r3 => some (r3, y2.2)
def b_L_does_159 (v0 : Nat) (h : HP) (v2 : Int32) (v3 : Int32) (v4 : Int32) : Option (Int32 × HP) :=
  (f_X7_about h v0 1).bind fun y1 => (rt y1.1).bind fun r2 => if r2 ≤ 0 then b_L_does_190 v0 y1.2 v2 v3 else if 5 ≤ v4 then b_L_does_190 v0 y1.2 v2 v3 else (f_X7_about y1.2 v0 4).bind fun y5 => (rt y5.1).bind fun r6 => if 28 ≤ r6 then b_L_does_190 v0 y5.2 v2 v3 else (f_X7_flush y5.2 v0).bind fun y8 => (rt y8.1).bind fun r9 => some (r9, y8.2)
def b_L_does_134 (v0 : Nat) (v1 : Int32) (h : HP) (v2 : Int32) (v3 : Int32) : Option (Int32 × HP) :=
  if v2 ≤ 0 then some (0, h) else (f_L_low h (jishr v1 10) 30).bind fun y2 => (f_X7_bury h v0 v3 (v3 + y2)).bind fun y3 => (rt y3.1).bind fun r4 => some (r4, y3.2)
def b_L_does_108 (v0 : Nat) (v1 : Int32) (h : HP) (v2 : Int32) (v3 : Int32) : Option (Int32 × HP) :=
  if v2 ≤ 0 then some (0, h) else (f_L_low h (jishr v1 10) 999).bind fun y2 => (f_X7_put h v0 v3 (1 + y2)).bind fun y3 => (rt y3.1).bind fun r4 => some (r4, y3.2)
def b_L_does_22 (v0 : Nat) (v1 : Int32) (h : HP) (s0 : Int32) : Option (Int32 × HP) :=
  (f_L_low h (jishr v1 4) 40).bind fun y1 => (f_X7_about h v0 2).bind fun y2 => (rt y2.1).bind fun r3 => if (v1 &&& 15) = 0 then b_L_does_108 v0 v1 y2.2 s0 y1 else if (v1 &&& 15) = 1 then b_L_does_108 v0 v1 y2.2 s0 y1 else if (v1 &&& 15) = 2 then b_L_does_108 v0 v1 y2.2 s0 y1 else if (v1 &&& 15) = 3 then b_L_does_108 v0 v1 y2.2 s0 y1 else if (v1 &&& 15) = 4 then b_L_does_108 v0 v1 y2.2 s0 y1 else if (v1 &&& 15) = 5 then b_L_does_134 v0 v1 y2.2 s0 y1 else if (v1 &&& 15) = 6 then b_L_does_134 v0 v1 y2.2 s0 y1 else if (v1 &&& 15) = 7 then b_L_does_134 v0 v1 y2.2 s0 y1 else if (v1 &&& 15) = 8 then b_L_does_159 v0 y2.2 s0 y1 r3 else if (v1 &&& 15) = 9 then b_L_does_159 v0 y2.2 s0 y1 r3 else if (v1 &&& 15) = 10 then b_L_does_159 v0 y2.2 s0 y1 r3 else if (v1 &&& 15) = 11 then (f_X7_about y2.2 v0 3).bind fun y16 => (rt y16.1).bind fun r17 => if 2 ≤ r17 then (f_X7_close y16.2 v0 ((jishr v1 4) &&& 1)).bind fun y19 => (rt y19.1).bind fun r20 => some (r20, y19.2) else (f_X7_open y16.2 v0).bind fun y21 => (rt y21.1).bind fun r22 => some (r22, y21.2) else if (v1 &&& 15) = 12 then (f_X7_about y2.2 v0 3).bind fun y24 => (rt y24.1).bind fun r25 => if r25 ≤ 0 then some (0, y24.2) else if ((jishr v1 4) &&& 1) = 0 then (f_X7_close y24.2 v0 0).bind fun y28 => (rt y28.1).bind fun r29 => some (r29, y28.2) else some (0, y24.2) else (f_X7_best y2.2 v0).bind fun y30 => if 0 ≤ y30.1 then (f_X7_merge y30.2 v0 y30.1).bind fun y32 => (rt y32.1).bind fun r33 => some (r33, y32.2) else some (0, y30.2)
def b_L_does_0 (v0 : Nat) (v1 : Int32) (h : HP) : Option (Int32 × HP) :=
  (f_X7_about h v0 1).bind fun y1 => (rt y1.1).bind fun r2 => if 7 ≤ r2 then b_L_does_22 v0 v1 y1.2 0 else (f_X7_about y1.2 v0 4).bind fun y4 => (rt y4.1).bind fun r5 => b_L_does_22 v0 v1 y4.2 (48 - r5)
def f_L_does (h : HP) (v0 : Nat) (v1 : Int32) : Option (Int32 × HP) := b_L_does_0 v0 v1 h
theorem w_L_does_190 {l : Launch} {X : SCR} {Q : PST} {bc bs : Nat} {res : Int32 × HP} {h : HP} (hQ : ∀ sz', Q (.inl (some (.int res.1))) res.2 sz') {v0 : Nat} {v2 : Int32} {v3 : Int32} {sz : Nat} (hf : b_L_does_190 v0 h v2 v3 = some res) : SP l X M_L_does 190 [(0, .ref v0), (2, .int v2), (3, .int v3)] [] h sz bc bs Q := by
  rw [b_L_does_190] at hf
  refine sp_iload_n (pc := 190) dL_does_190 1 rfl ?_
  refine sp_if_le (pc := 191) (tgt := 204) dL_does_191 (by decide) (fun c1 => ?_) (fun c1 => ?_)
  · rw [if_pos c1] at hf
    refine sp_iconst (pc := 204) (v := 0) dL_does_204 (by decide) ?_
    obtain rfl := Option.some.inj hf
    exact sp_ireturn (pc := 205) dL_does_205 rfl rfl (hQ _)
  · rw [if_neg c1] at hf
    refine sp_aload_n (pc := 194) dL_does_194 0 rfl ?_
    refine sp_iload_n (pc := 195) dL_does_195 2 rfl ?_
    refine sp_bipush (pc := 196) (v := 7) dL_does_196 (by decide) ?_
    obtain ⟨y2, ey2, hf⟩ := ob hf
    obtain ⟨r3, er3, hf⟩ := ob hf
    obtain ⟨fsy2, hoy2⟩ := o_X7_put ey2
    refine sp_callVi (pc := 198) (z := M_X7_put) (As := [.int v3, .int 7]) (b := v0) (bc2 := bc) (bs2 := bs) (m_X7_put (Q := _) (fun sz => ⟨r3, outT_e er3, ?_⟩) (rt_no er3) ey2) rfl dL_does_198 hoy2 rfl rfl ck_L_does_20 (Nat.le_of_ble_eq_true rfl) rfl rfl rfl
    refine sp_goto (pc := 201) (tgt := 205) dL_does_201 (by decide) ?_
    obtain rfl := Option.some.inj hf
    exact sp_ireturn (pc := 205) dL_does_205 rfl rfl (hQ _)

theorem w_L_does_159 {l : Launch} {X : SCR} {Q : PST} {bc bs : Nat} {res : Int32 × HP} {h : HP} (hQ : ∀ sz', Q (.inl (some (.int res.1))) res.2 sz') {v0 : Nat} {v2 : Int32} {v3 : Int32} {v4 : Int32} {sz : Nat} (hf : b_L_does_159 v0 h v2 v3 v4 = some res) : SP l X M_L_does 159 [(0, .ref v0), (2, .int v2), (3, .int v3), (4, .int v4)] [] h sz bc bs Q := by
  rw [b_L_does_159] at hf
  refine sp_aload_n (pc := 159) dL_does_159 0 rfl ?_
  refine sp_iconst (pc := 160) (v := 1) dL_does_160 (by decide) ?_
  obtain ⟨y1, ey1, hf⟩ := ob hf
  obtain ⟨r2, er2, hf⟩ := ob hf
  obtain ⟨fsy1, hoy1⟩ := o_X7_about ey1
  refine sp_callVi (pc := 161) (z := M_X7_about) (As := [.int 1]) (b := v0) (bc2 := bc) (bs2 := bs) (m_X7_about (Q := _) (fun sz => ⟨r2, outT_e er2, ?_⟩) (rt_no er2) ey1) rfl dL_does_161 hoy1 rfl rfl ck_L_does_8 (Nat.le_of_ble_eq_true rfl) rfl rfl rfl
  refine sp_if_le (pc := 164) (tgt := 190) dL_does_164 (by decide) (fun c3 => ?_) (fun c3 => ?_)
  · rw [if_pos c3] at hf
    exact sp_sub [0, 1, 2] rfl (w_L_does_190 hQ hf)
  · rw [if_neg c3] at hf
    refine sp_iload (pc := 167) dL_does_167 3 rfl ?_
    refine sp_iconst (pc := 169) (v := 5) dL_does_169 (by decide) ?_
    refine sp_icmp_ge (pc := 170) (tgt := 190) dL_does_170 (by decide) (fun c4 => ?_) (fun c4 => ?_)
    · rw [if_pos c4] at hf
      exact sp_sub [0, 1, 2] rfl (w_L_does_190 hQ hf)
    · rw [if_neg c4] at hf
      refine sp_aload_n (pc := 173) dL_does_173 0 rfl ?_
      refine sp_iconst (pc := 174) (v := 4) dL_does_174 (by decide) ?_
      obtain ⟨y5, ey5, hf⟩ := ob hf
      obtain ⟨r6, er6, hf⟩ := ob hf
      obtain ⟨fsy5, hoy5⟩ := o_X7_about ey5
      refine sp_callVi (pc := 175) (z := M_X7_about) (As := [.int 4]) (b := v0) (bc2 := bc) (bs2 := bs) (m_X7_about (Q := _) (fun sz => ⟨r6, outT_e er6, ?_⟩) (rt_no er6) ey5) rfl dL_does_175 hoy5 rfl rfl ck_L_does_8 (Nat.le_of_ble_eq_true rfl) rfl rfl rfl
      refine sp_bipush (pc := 178) (v := 28) dL_does_178 (by decide) ?_
      refine sp_icmp_ge (pc := 180) (tgt := 190) dL_does_180 (by decide) (fun c7 => ?_) (fun c7 => ?_)
      · rw [if_pos c7] at hf
        exact sp_sub [0, 1, 2] rfl (w_L_does_190 hQ hf)
      · rw [if_neg c7] at hf
        refine sp_aload_n (pc := 183) dL_does_183 0 rfl ?_
        obtain ⟨y8, ey8, hf⟩ := ob hf
        obtain ⟨r9, er9, hf⟩ := ob hf
        obtain ⟨fsy8, hoy8⟩ := o_X7_flush ey8
        refine sp_callVi (pc := 184) (z := M_X7_flush) (As := []) (b := v0) (bc2 := bc) (bs2 := bs) (m_X7_flush (Q := _) (fun sz => ⟨r9, outT_e er9, ?_⟩) (rt_no er9) ey8) rfl dL_does_184 hoy8 rfl rfl ck_L_does_26 (Nat.le_of_ble_eq_true rfl) rfl rfl rfl
        refine sp_goto (pc := 187) (tgt := 205) dL_does_187 (by decide) ?_
        obtain rfl := Option.some.inj hf
        exact sp_ireturn (pc := 205) dL_does_205 rfl rfl (hQ _)

theorem w_L_does_134 {l : Launch} {X : SCR} {Q : PST} {bc bs : Nat} {res : Int32 × HP} {h : HP} (hQ : ∀ sz', Q (.inl (some (.int res.1))) res.2 sz') {v0 : Nat} {v1 : Int32} {v2 : Int32} {v3 : Int32} {sz : Nat} (hf : b_L_does_134 v0 v1 h v2 v3 = some res) : SP l X M_L_does 134 [(0, .ref v0), (1, .int v1), (2, .int v2), (3, .int v3)] [] h sz bc bs Q := by
  rw [b_L_does_134] at hf
  refine sp_iload_n (pc := 134) dL_does_134 2 rfl ?_
  refine sp_if_le (pc := 135) (tgt := 157) dL_does_135 (by decide) (fun c1 => ?_) (fun c1 => ?_)
  · rw [if_pos c1] at hf
    refine sp_iconst (pc := 157) (v := 0) dL_does_157 (by decide) ?_
    obtain rfl := Option.some.inj hf
    exact sp_ireturn (pc := 158) dL_does_158 rfl rfl (hQ _)
  · rw [if_neg c1] at hf
    refine sp_aload_n (pc := 138) dL_does_138 0 rfl ?_
    refine sp_iload_n (pc := 139) dL_does_139 3 rfl ?_
    refine sp_iload_n (pc := 140) dL_does_140 3 rfl ?_
    refine sp_iload_n (pc := 141) dL_does_141 1 rfl ?_
    refine sp_bipush (pc := 142) (v := 10) dL_does_142 (by decide) ?_
    refine sp_ishr (pc := 144) dL_does_144 ?_
    refine sp_bipush (pc := 145) (v := 30) dL_does_145 (by decide) ?_
    obtain ⟨y2, ey2, hf⟩ := ob hf
    refine sp_callSi (pc := 147) (z := M_L_low) (As := [.int (jishr v1 10), .int 30]) (bc2 := bc) (bs2 := bs) (m_L_low (Q := _) (fun sz => ⟨y2, rfl, ?_⟩) ey2) rfl dL_does_147 rfl ck_L_does_14 (Nat.le_of_ble_eq_true rfl) rfl rfl rfl
    refine sp_iadd (pc := 150) dL_does_150 ?_
    obtain ⟨y3, ey3, hf⟩ := ob hf
    obtain ⟨r4, er4, hf⟩ := ob hf
    obtain ⟨fsy3, hoy3⟩ := o_X7_bury ey3
    refine sp_callVi (pc := 151) (z := M_X7_bury) (As := [.int v3, .int (v3 + y2)]) (b := v0) (bc2 := bc) (bs2 := bs) (m_X7_bury (Q := _) (fun sz => ⟨r4, outT_e er4, ?_⟩) (rt_no er4) ey3) rfl dL_does_151 hoy3 rfl rfl ck_L_does_23 (Nat.le_of_ble_eq_true rfl) rfl rfl rfl
    refine sp_goto (pc := 154) (tgt := 158) dL_does_154 (by decide) ?_
    obtain rfl := Option.some.inj hf
    exact sp_ireturn (pc := 158) dL_does_158 rfl rfl (hQ _)

theorem w_L_does_108 {l : Launch} {X : SCR} {Q : PST} {bc bs : Nat} {res : Int32 × HP} {h : HP} (hQ : ∀ sz', Q (.inl (some (.int res.1))) res.2 sz') {v0 : Nat} {v1 : Int32} {v2 : Int32} {v3 : Int32} {sz : Nat} (hf : b_L_does_108 v0 v1 h v2 v3 = some res) : SP l X M_L_does 108 [(0, .ref v0), (1, .int v1), (2, .int v2), (3, .int v3)] [] h sz bc bs Q := by
  rw [b_L_does_108] at hf
  refine sp_iload_n (pc := 108) dL_does_108 2 rfl ?_
  refine sp_if_le (pc := 109) (tgt := 132) dL_does_109 (by decide) (fun c1 => ?_) (fun c1 => ?_)
  · rw [if_pos c1] at hf
    refine sp_iconst (pc := 132) (v := 0) dL_does_132 (by decide) ?_
    obtain rfl := Option.some.inj hf
    exact sp_ireturn (pc := 133) dL_does_133 rfl rfl (hQ _)
  · rw [if_neg c1] at hf
    refine sp_aload_n (pc := 112) dL_does_112 0 rfl ?_
    refine sp_iload_n (pc := 113) dL_does_113 3 rfl ?_
    refine sp_iconst (pc := 114) (v := 1) dL_does_114 (by decide) ?_
    refine sp_iload_n (pc := 115) dL_does_115 1 rfl ?_
    refine sp_bipush (pc := 116) (v := 10) dL_does_116 (by decide) ?_
    refine sp_ishr (pc := 118) dL_does_118 ?_
    refine sp_sipush (pc := 119) (v := 999) dL_does_119 (by decide) ?_
    obtain ⟨y2, ey2, hf⟩ := ob hf
    refine sp_callSi (pc := 122) (z := M_L_low) (As := [.int (jishr v1 10), .int 999]) (bc2 := bc) (bs2 := bs) (m_L_low (Q := _) (fun sz => ⟨y2, rfl, ?_⟩) ey2) rfl dL_does_122 rfl ck_L_does_14 (Nat.le_of_ble_eq_true rfl) rfl rfl rfl
    refine sp_iadd (pc := 125) dL_does_125 ?_
    obtain ⟨y3, ey3, hf⟩ := ob hf
    obtain ⟨r4, er4, hf⟩ := ob hf
    obtain ⟨fsy3, hoy3⟩ := o_X7_put ey3
    refine sp_callVi (pc := 126) (z := M_X7_put) (As := [.int v3, .int (1 + y2)]) (b := v0) (bc2 := bc) (bs2 := bs) (m_X7_put (Q := _) (fun sz => ⟨r4, outT_e er4, ?_⟩) (rt_no er4) ey3) rfl dL_does_126 hoy3 rfl rfl ck_L_does_20 (Nat.le_of_ble_eq_true rfl) rfl rfl rfl
    refine sp_goto (pc := 129) (tgt := 133) dL_does_129 (by decide) ?_
    obtain rfl := Option.some.inj hf
    exact sp_ireturn (pc := 133) dL_does_133 rfl rfl (hQ _)

theorem w_L_does_22 {l : Launch} {X : SCR} {Q : PST} {bc bs : Nat} {res : Int32 × HP} {h : HP} (hQ : ∀ sz', Q (.inl (some (.int res.1))) res.2 sz') {v0 : Nat} {v1 : Int32} {s0 : Int32} {sz : Nat} (hf : b_L_does_22 v0 v1 h s0 = some res) : SP l X M_L_does 22 [(0, .ref v0), (1, .int v1)] [.int s0] h sz bc bs Q := by
  rw [b_L_does_22] at hf
  refine sp_istore_n (pc := 22) (lv' := [(2, .int s0), (0, .ref v0), (1, .int v1)]) dL_does_22 (by decide) rfl ?_
  refine sp_iload_n (pc := 23) dL_does_23 2 rfl ?_
  refine sp_iconst (pc := 24) (v := 4) dL_does_24 (by decide) ?_
  refine sp_ishr (pc := 25) dL_does_25 ?_
  refine sp_bipush (pc := 26) (v := 40) dL_does_26 (by decide) ?_
  obtain ⟨y1, ey1, hf⟩ := ob hf
  refine sp_callSi (pc := 28) (z := M_L_low) (As := [.int (jishr v1 4), .int 40]) (bc2 := bc) (bs2 := bs) (m_L_low (Q := _) (fun sz => ⟨y1, rfl, ?_⟩) ey1) rfl dL_does_28 rfl ck_L_does_14 (Nat.le_of_ble_eq_true rfl) rfl rfl rfl
  refine sp_istore_n (pc := 31) (lv' := [(3, .int y1), (2, .int s0), (0, .ref v0), (1, .int v1)]) dL_does_31 (by decide) rfl ?_
  refine sp_aload_n (pc := 32) dL_does_32 2 rfl ?_
  refine sp_iconst (pc := 33) (v := 2) dL_does_33 (by decide) ?_
  obtain ⟨y2, ey2, hf⟩ := ob hf
  obtain ⟨r3, er3, hf⟩ := ob hf
  obtain ⟨fsy2, hoy2⟩ := o_X7_about ey2
  refine sp_callVi (pc := 34) (z := M_X7_about) (As := [.int 2]) (b := v0) (bc2 := bc) (bs2 := bs) (m_X7_about (Q := _) (fun sz => ⟨r3, outT_e er3, ?_⟩) (rt_no er3) ey2) rfl dL_does_34 hoy2 rfl rfl ck_L_does_8 (Nat.le_of_ble_eq_true rfl) rfl rfl rfl
  refine sp_istore (pc := 37) (lv' := [(4, .int r3), (3, .int y1), (2, .int s0), (0, .ref v0), (1, .int v1)]) dL_does_37 (by decide) rfl ?_
  refine sp_iload_n (pc := 39) dL_does_39 4 rfl ?_
  refine sp_bipush (pc := 40) (v := 15) dL_does_40 (by decide) ?_
  refine sp_iand (pc := 42) dL_does_42 ?_
  by_cases c4 : (v1 &&& 15) = 0
  · rw [if_pos c4] at hf
    refine sp_tableIn (pc := 43) (off := 65) (tgt := 108) dL_does_43 (by rw [c4]; decide) (by rw [c4]; decide) (by rw [c4]; rfl) (by decide) ?_
    exact sp_sub [3, 4, 2, 1] rfl (w_L_does_108 hQ hf)
  rw [if_neg c4] at hf
  by_cases c5 : (v1 &&& 15) = 1
  · rw [if_pos c5] at hf
    refine sp_tableIn (pc := 43) (off := 65) (tgt := 108) dL_does_43 (by rw [c5]; decide) (by rw [c5]; decide) (by rw [c5]; rfl) (by decide) ?_
    exact sp_sub [3, 4, 2, 1] rfl (w_L_does_108 hQ hf)
  rw [if_neg c5] at hf
  by_cases c6 : (v1 &&& 15) = 2
  · rw [if_pos c6] at hf
    refine sp_tableIn (pc := 43) (off := 65) (tgt := 108) dL_does_43 (by rw [c6]; decide) (by rw [c6]; decide) (by rw [c6]; rfl) (by decide) ?_
    exact sp_sub [3, 4, 2, 1] rfl (w_L_does_108 hQ hf)
  rw [if_neg c6] at hf
  by_cases c7 : (v1 &&& 15) = 3
  · rw [if_pos c7] at hf
    refine sp_tableIn (pc := 43) (off := 65) (tgt := 108) dL_does_43 (by rw [c7]; decide) (by rw [c7]; decide) (by rw [c7]; rfl) (by decide) ?_
    exact sp_sub [3, 4, 2, 1] rfl (w_L_does_108 hQ hf)
  rw [if_neg c7] at hf
  by_cases c8 : (v1 &&& 15) = 4
  · rw [if_pos c8] at hf
    refine sp_tableIn (pc := 43) (off := 65) (tgt := 108) dL_does_43 (by rw [c8]; decide) (by rw [c8]; decide) (by rw [c8]; rfl) (by decide) ?_
    exact sp_sub [3, 4, 2, 1] rfl (w_L_does_108 hQ hf)
  rw [if_neg c8] at hf
  by_cases c9 : (v1 &&& 15) = 5
  · rw [if_pos c9] at hf
    refine sp_tableIn (pc := 43) (off := 91) (tgt := 134) dL_does_43 (by rw [c9]; decide) (by rw [c9]; decide) (by rw [c9]; rfl) (by decide) ?_
    exact sp_sub [3, 4, 2, 1] rfl (w_L_does_134 hQ hf)
  rw [if_neg c9] at hf
  by_cases c10 : (v1 &&& 15) = 6
  · rw [if_pos c10] at hf
    refine sp_tableIn (pc := 43) (off := 91) (tgt := 134) dL_does_43 (by rw [c10]; decide) (by rw [c10]; decide) (by rw [c10]; rfl) (by decide) ?_
    exact sp_sub [3, 4, 2, 1] rfl (w_L_does_134 hQ hf)
  rw [if_neg c10] at hf
  by_cases c11 : (v1 &&& 15) = 7
  · rw [if_pos c11] at hf
    refine sp_tableIn (pc := 43) (off := 91) (tgt := 134) dL_does_43 (by rw [c11]; decide) (by rw [c11]; decide) (by rw [c11]; rfl) (by decide) ?_
    exact sp_sub [3, 4, 2, 1] rfl (w_L_does_134 hQ hf)
  rw [if_neg c11] at hf
  by_cases c12 : (v1 &&& 15) = 8
  · rw [if_pos c12] at hf
    refine sp_tableIn (pc := 43) (off := 116) (tgt := 159) dL_does_43 (by rw [c12]; decide) (by rw [c12]; decide) (by rw [c12]; rfl) (by decide) ?_
    exact sp_sub [3, 2, 1, 0] rfl (w_L_does_159 hQ hf)
  rw [if_neg c12] at hf
  by_cases c13 : (v1 &&& 15) = 9
  · rw [if_pos c13] at hf
    refine sp_tableIn (pc := 43) (off := 116) (tgt := 159) dL_does_43 (by rw [c13]; decide) (by rw [c13]; decide) (by rw [c13]; rfl) (by decide) ?_
    exact sp_sub [3, 2, 1, 0] rfl (w_L_does_159 hQ hf)
  rw [if_neg c13] at hf
  by_cases c14 : (v1 &&& 15) = 10
  · rw [if_pos c14] at hf
    refine sp_tableIn (pc := 43) (off := 116) (tgt := 159) dL_does_43 (by rw [c14]; decide) (by rw [c14]; decide) (by rw [c14]; rfl) (by decide) ?_
    exact sp_sub [3, 2, 1, 0] rfl (w_L_does_159 hQ hf)
  rw [if_neg c14] at hf
  by_cases c15 : (v1 &&& 15) = 11
  · rw [if_pos c15] at hf
    refine sp_tableIn (pc := 43) (off := 163) (tgt := 206) dL_does_43 (by rw [c15]; decide) (by rw [c15]; decide) (by rw [c15]; rfl) (by decide) ?_
    refine sp_aload_n (pc := 206) dL_does_206 3 rfl ?_
    refine sp_iconst (pc := 207) (v := 3) dL_does_207 (by decide) ?_
    obtain ⟨y16, ey16, hf⟩ := ob hf
    obtain ⟨r17, er17, hf⟩ := ob hf
    obtain ⟨fsy16, hoy16⟩ := o_X7_about ey16
    refine sp_callVi (pc := 208) (z := M_X7_about) (As := [.int 3]) (b := v0) (bc2 := bc) (bs2 := bs) (m_X7_about (Q := _) (fun sz => ⟨r17, outT_e er17, ?_⟩) (rt_no er17) ey16) rfl dL_does_208 hoy16 rfl rfl ck_L_does_8 (Nat.le_of_ble_eq_true rfl) rfl rfl rfl
    refine sp_iconst (pc := 211) (v := 2) dL_does_211 (by decide) ?_
    refine sp_icmp_ge (pc := 212) (tgt := 222) dL_does_212 (by decide) (fun c18 => ?_) (fun c18 => ?_)
    · rw [if_pos c18] at hf
      refine sp_aload_n (pc := 222) dL_does_222 3 rfl ?_
      refine sp_iload_n (pc := 223) dL_does_223 4 rfl ?_
      refine sp_iconst (pc := 224) (v := 4) dL_does_224 (by decide) ?_
      refine sp_ishr (pc := 225) dL_does_225 ?_
      refine sp_iconst (pc := 226) (v := 1) dL_does_226 (by decide) ?_
      refine sp_iand (pc := 227) dL_does_227 ?_
      obtain ⟨y19, ey19, hf⟩ := ob hf
      obtain ⟨r20, er20, hf⟩ := ob hf
      obtain ⟨fsy19, hoy19⟩ := o_X7_close ey19
      refine sp_callVi (pc := 228) (z := M_X7_close) (As := [.int ((jishr v1 4) &&& 1)]) (b := v0) (bc2 := bc) (bs2 := bs) (m_X7_close (Q := _) (fun sz => ⟨r20, outT_e er20, ?_⟩) (rt_no er20) ey19) rfl dL_does_228 hoy19 rfl rfl ck_L_does_33 (Nat.le_of_ble_eq_true rfl) rfl rfl rfl
      obtain rfl := Option.some.inj hf
      exact sp_ireturn (pc := 231) dL_does_231 rfl rfl (hQ _)
    · rw [if_neg c18] at hf
      refine sp_aload_n (pc := 215) dL_does_215 3 rfl ?_
      obtain ⟨y21, ey21, hf⟩ := ob hf
      obtain ⟨r22, er22, hf⟩ := ob hf
      obtain ⟨fsy21, hoy21⟩ := o_X7_open ey21
      refine sp_callVi (pc := 216) (z := M_X7_open) (As := []) (b := v0) (bc2 := bc) (bs2 := bs) (m_X7_open (Q := _) (fun sz => ⟨r22, outT_e er22, ?_⟩) (rt_no er22) ey21) rfl dL_does_216 hoy21 rfl rfl ck_L_does_30 (Nat.le_of_ble_eq_true rfl) rfl rfl rfl
      refine sp_goto (pc := 219) (tgt := 231) dL_does_219 (by decide) ?_
      obtain rfl := Option.some.inj hf
      exact sp_ireturn (pc := 231) dL_does_231 rfl rfl (hQ _)
  rw [if_neg c15] at hf
  by_cases c23 : (v1 &&& 15) = 12
  · rw [if_pos c23] at hf
    refine sp_tableIn (pc := 43) (off := 189) (tgt := 232) dL_does_43 (by rw [c23]; decide) (by rw [c23]; decide) (by rw [c23]; rfl) (by decide) ?_
    refine sp_aload_n (pc := 232) dL_does_232 3 rfl ?_
    refine sp_iconst (pc := 233) (v := 3) dL_does_233 (by decide) ?_
    obtain ⟨y24, ey24, hf⟩ := ob hf
    obtain ⟨r25, er25, hf⟩ := ob hf
    obtain ⟨fsy24, hoy24⟩ := o_X7_about ey24
    refine sp_callVi (pc := 234) (z := M_X7_about) (As := [.int 3]) (b := v0) (bc2 := bc) (bs2 := bs) (m_X7_about (Q := _) (fun sz => ⟨r25, outT_e er25, ?_⟩) (rt_no er25) ey24) rfl dL_does_234 hoy24 rfl rfl ck_L_does_8 (Nat.le_of_ble_eq_true rfl) rfl rfl rfl
    refine sp_if_le (pc := 237) (tgt := 256) dL_does_237 (by decide) (fun c26 => ?_) (fun c26 => ?_)
    · rw [if_pos c26] at hf
      refine sp_iconst (pc := 256) (v := 0) dL_does_256 (by decide) ?_
      obtain rfl := Option.some.inj hf
      exact sp_ireturn (pc := 257) dL_does_257 rfl rfl (hQ _)
    · rw [if_neg c26] at hf
      refine sp_iload_n (pc := 240) dL_does_240 4 rfl ?_
      refine sp_iconst (pc := 241) (v := 4) dL_does_241 (by decide) ?_
      refine sp_ishr (pc := 242) dL_does_242 ?_
      refine sp_iconst (pc := 243) (v := 1) dL_does_243 (by decide) ?_
      refine sp_iand (pc := 244) dL_does_244 ?_
      refine sp_if_ne (pc := 245) (tgt := 256) dL_does_245 (by decide) (fun c27 => ?_) (fun c27 => ?_)
      · rw [if_neg c27] at hf
        refine sp_iconst (pc := 256) (v := 0) dL_does_256 (by decide) ?_
        obtain rfl := Option.some.inj hf
        exact sp_ireturn (pc := 257) dL_does_257 rfl rfl (hQ _)
      · rw [if_pos c27] at hf
        refine sp_aload_n (pc := 248) dL_does_248 3 rfl ?_
        refine sp_iconst (pc := 249) (v := 0) dL_does_249 (by decide) ?_
        obtain ⟨y28, ey28, hf⟩ := ob hf
        obtain ⟨r29, er29, hf⟩ := ob hf
        obtain ⟨fsy28, hoy28⟩ := o_X7_close ey28
        refine sp_callVi (pc := 250) (z := M_X7_close) (As := [.int 0]) (b := v0) (bc2 := bc) (bs2 := bs) (m_X7_close (Q := _) (fun sz => ⟨r29, outT_e er29, ?_⟩) (rt_no er29) ey28) rfl dL_does_250 hoy28 rfl rfl ck_L_does_33 (Nat.le_of_ble_eq_true rfl) rfl rfl rfl
        refine sp_goto (pc := 253) (tgt := 257) dL_does_253 (by decide) ?_
        obtain rfl := Option.some.inj hf
        exact sp_ireturn (pc := 257) dL_does_257 rfl rfl (hQ _)
  rw [if_neg c23] at hf
  refine sp_tableOut (pc := 43) (tgt := 258) dL_does_43 (tbl_out (fun i h1 h2 he => ?_)) (by decide) ?_
  · rcases (show i = 0 ∨ i = 1 ∨ i = 2 ∨ i = 3 ∨ i = 4 ∨ i = 5 ∨ i = 6 ∨ i = 7 ∨ i = 8 ∨ i = 9 ∨ i = 10 ∨ i = 11 ∨ i = 12 by omega) with rfl | rfl | rfl | rfl | rfl | rfl | rfl | rfl | rfl | rfl | rfl | rfl | rfl
    · exact c4 (Int32.toInt_inj.mp (he.trans (by decide)))
    · exact c5 (Int32.toInt_inj.mp (he.trans (by decide)))
    · exact c6 (Int32.toInt_inj.mp (he.trans (by decide)))
    · exact c7 (Int32.toInt_inj.mp (he.trans (by decide)))
    · exact c8 (Int32.toInt_inj.mp (he.trans (by decide)))
    · exact c9 (Int32.toInt_inj.mp (he.trans (by decide)))
    · exact c10 (Int32.toInt_inj.mp (he.trans (by decide)))
    · exact c11 (Int32.toInt_inj.mp (he.trans (by decide)))
    · exact c12 (Int32.toInt_inj.mp (he.trans (by decide)))
    · exact c13 (Int32.toInt_inj.mp (he.trans (by decide)))
    · exact c14 (Int32.toInt_inj.mp (he.trans (by decide)))
    · exact c15 (Int32.toInt_inj.mp (he.trans (by decide)))
    · exact c23 (Int32.toInt_inj.mp (he.trans (by decide)))
  refine sp_aload_n (pc := 258) dL_does_258 3 rfl ?_
  obtain ⟨y30, ey30, hf⟩ := ob hf
  obtain ⟨fsy30, hoy30⟩ := o_X7_best ey30
  refine sp_callVi (pc := 259) (z := M_X7_best) (As := []) (b := v0) (bc2 := bc) (bs2 := bs) (m_X7_best (Q := _) (fun sz => ⟨y30.1, rfl, ?_⟩) ey30) rfl dL_does_259 hoy30 rfl rfl ck_L_does_36 (Nat.le_of_ble_eq_true rfl) rfl rfl rfl
  refine sp_istore (pc := 262) (lv' := [(5, .int y30.1), (4, .int r3), (3, .int y1), (2, .int s0), (0, .ref v0), (1, .int v1)]) dL_does_262 (by decide) rfl ?_
  refine sp_iload (pc := 264) dL_does_264 0 rfl ?_
  refine sp_if_ge (pc := 266) (tgt := 273) dL_does_266 (by decide) (fun c31 => ?_) (fun c31 => ?_)
  · rw [if_pos c31] at hf
    refine sp_aload_n (pc := 273) dL_does_273 4 rfl ?_
    refine sp_iload (pc := 274) dL_does_274 0 rfl ?_
    obtain ⟨y32, ey32, hf⟩ := ob hf
    obtain ⟨r33, er33, hf⟩ := ob hf
    obtain ⟨fsy32, hoy32⟩ := o_X7_merge ey32
    refine sp_callVi (pc := 276) (z := M_X7_merge) (As := [.int y30.1]) (b := v0) (bc2 := bc) (bs2 := bs) (m_X7_merge (Q := _) (fun sz => ⟨r33, outT_e er33, ?_⟩) (rt_no er33) ey32) rfl dL_does_276 hoy32 rfl rfl ck_L_does_39 (Nat.le_of_ble_eq_true rfl) rfl rfl rfl
    obtain rfl := Option.some.inj hf
    exact sp_ireturn (pc := 279) dL_does_279 rfl rfl (hQ _)
  · rw [if_neg c31] at hf
    refine sp_iconst (pc := 269) (v := 0) dL_does_269 (by decide) ?_
    refine sp_goto (pc := 270) (tgt := 279) dL_does_270 (by decide) ?_
    obtain rfl := Option.some.inj hf
    exact sp_ireturn (pc := 279) dL_does_279 rfl rfl (hQ _)

theorem w_L_does_0 {l : Launch} {X : SCR} {Q : PST} {bc bs : Nat} {res : Int32 × HP} {h : HP} (hQ : ∀ sz', Q (.inl (some (.int res.1))) res.2 sz') {v0 : Nat} {v1 : Int32} {sz : Nat} (hf : b_L_does_0 v0 v1 h  = some res) : SP l X M_L_does 0 [(0, .ref v0), (1, .int v1)] [] h sz bc bs Q := by
  rw [b_L_does_0] at hf
  refine sp_aload_n (pc := 0) dL_does_0 0 rfl ?_
  refine sp_iconst (pc := 1) (v := 1) dL_does_1 (by decide) ?_
  obtain ⟨y1, ey1, hf⟩ := ob hf
  obtain ⟨r2, er2, hf⟩ := ob hf
  obtain ⟨fsy1, hoy1⟩ := o_X7_about ey1
  refine sp_callVi (pc := 2) (z := M_X7_about) (As := [.int 1]) (b := v0) (bc2 := bc) (bs2 := bs) (m_X7_about (Q := _) (fun sz => ⟨r2, outT_e er2, ?_⟩) (rt_no er2) ey1) rfl dL_does_2 hoy1 rfl rfl ck_L_does_8 (Nat.le_of_ble_eq_true rfl) rfl rfl rfl
  refine sp_bipush (pc := 5) (v := 7) dL_does_5 (by decide) ?_
  refine sp_icmp_ge (pc := 7) (tgt := 21) dL_does_7 (by decide) (fun c3 => ?_) (fun c3 => ?_)
  · rw [if_pos c3] at hf
    refine sp_iconst (pc := 21) (v := 0) dL_does_21 (by decide) ?_
    exact (w_L_does_22 hQ hf)
  · rw [if_neg c3] at hf
    refine sp_bipush (pc := 10) (v := 48) dL_does_10 (by decide) ?_
    refine sp_aload_n (pc := 12) dL_does_12 0 rfl ?_
    refine sp_iconst (pc := 13) (v := 4) dL_does_13 (by decide) ?_
    obtain ⟨y4, ey4, hf⟩ := ob hf
    obtain ⟨r5, er5, hf⟩ := ob hf
    obtain ⟨fsy4, hoy4⟩ := o_X7_about ey4
    refine sp_callVi (pc := 14) (z := M_X7_about) (As := [.int 4]) (b := v0) (bc2 := bc) (bs2 := bs) (m_X7_about (Q := _) (fun sz => ⟨r5, outT_e er5, ?_⟩) (rt_no er5) ey4) rfl dL_does_14 hoy4 rfl rfl ck_L_does_8 (Nat.le_of_ble_eq_true rfl) rfl rfl rfl
    refine sp_isub (pc := 17) dL_does_17 ?_
    refine sp_goto (pc := 18) (tgt := 22) dL_does_18 (by decide) ?_
    exact (w_L_does_22 hQ hf)

theorem m_L_does {l : Launch} {Q : PST} {h : HP} {v0 : Nat} {v1 : Int32} {sz : Nat} {res : Int32 × HP} (hQ : ∀ sz', Q (.inl (some (.int res.1))) res.2 sz') (hf : f_L_does h v0 v1 = some res) : MM l M_L_does [.ref v0, .int v1] h sz Q := by
  rw [f_L_does] at hf
  exact MM_of wok_L_does (by decide +kernel) (Nat.le_of_ble_eq_true rfl) ((w_L_does_0 hQ hf))

theorem dL_tale_0 : decode (mB M_L_tale) 0 = .ok (.ldc2_w 42, 3) := by decide +kernel
theorem dL_tale_3 : decode (mB M_L_tale) 3 = .ok (.lstore_n 2, 1) := by decide +kernel
theorem dL_tale_4 : decode (mB M_L_tale) 4 = .ok (.iconst 0, 1) := by decide +kernel
theorem dL_tale_5 : decode (mB M_L_tale) 5 = .ok (.istore 4, 2) := by decide +kernel
theorem dL_tale_7 : decode (mB M_L_tale) 7 = .ok (.iload 4, 2) := by decide +kernel
theorem dL_tale_9 : decode (mB M_L_tale) 9 = .ok (.bipush 75, 2) := by decide +kernel
theorem dL_tale_11 : decode (mB M_L_tale) 11 = .ok (.if_icmp .ge 24, 3) := by decide +kernel
theorem dL_tale_14 : decode (mB M_L_tale) 14 = .ok (.lload_n 2, 1) := by decide +kernel
theorem dL_tale_15 : decode (mB M_L_tale) 15 = .ok (.ldc2_w 44, 3) := by decide +kernel
theorem dL_tale_18 : decode (mB M_L_tale) 18 = .ok (.lmul, 1) := by decide +kernel
theorem dL_tale_19 : decode (mB M_L_tale) 19 = .ok (.aload_n 0, 1) := by decide +kernel
theorem dL_tale_20 : decode (mB M_L_tale) 20 = .ok (.iload 4, 2) := by decide +kernel
theorem dL_tale_22 : decode (mB M_L_tale) 22 = .ok (.iload_n 1, 1) := by decide +kernel
theorem dL_tale_23 : decode (mB M_L_tale) 23 = .ok (.invokevirtual 46, 3) := by decide +kernel
theorem dL_tale_26 : decode (mB M_L_tale) 26 = .ok (.i2l, 1) := by decide +kernel
theorem dL_tale_27 : decode (mB M_L_tale) 27 = .ok (.ladd, 1) := by decide +kernel
theorem dL_tale_28 : decode (mB M_L_tale) 28 = .ok (.lstore_n 2, 1) := by decide +kernel
theorem dL_tale_29 : decode (mB M_L_tale) 29 = .ok (.iinc 4 1, 3) := by decide +kernel
theorem dL_tale_32 : decode (mB M_L_tale) 32 = .ok (.goto (-25), 3) := by decide +kernel
theorem dL_tale_35 : decode (mB M_L_tale) 35 = .ok (.lload_n 2, 1) := by decide +kernel
theorem dL_tale_36 : decode (mB M_L_tale) 36 = .ok (.lreturn, 1) := by decide +kernel
def c_L_tale_7 (h : HP) (v0 : Nat) (v1 : Int32) (k7 : Int64 → Int32 → Option (Int64)) (v2 : Int64) (v4 : Int32) : Option (Int64) :=
  if 75 ≤ v4 then some (v2) else (f_X7_get h v0 v4 v1).bind fun y2 => (rt y2).bind fun r3 => k7 ((v2 * 1009) + (Int32.toInt64 r3)) (v4 + 1)
def b_L_tale_7 (h : HP) (v0 : Nat) (v1 : Int32) : Nat → Int64 → Int32 → Option (Int64)
  | 0, _, _ => none
  | n + 1, v2, v4 => c_L_tale_7 h v0 v1 (b_L_tale_7 h v0 v1 n) v2 v4
def b_L_tale_0 (h : HP) (v0 : Nat) (v1 : Int32) : Option (Int64) :=
  b_L_tale_7 h v0 v1 FU 113 0
def f_L_tale (h : HP) (v0 : Nat) (v1 : Int32) : Option (Int64) := b_L_tale_0 h v0 v1
theorem wc_L_tale_7 {l : Launch} {X : SCR} {Q : PST} {bc bs : Nat} {res : Int64} {h : HP} (hQ : ∀ sz', Q (.inl (some (.long res))) h sz') {v0 : Nat} {v1 : Int32} {k7 : Int64 → Int32 → Option (Int64)} (hk7 : ∀ (v2 : Int64) (v4 : Int32) (sz : Nat), k7 v2 v4 = some res → SP l X M_L_tale 7 [(0, .ref v0), (1, .int v1), (2, .long v2), (4, .int v4)] [] h sz bc bs Q) {v2 : Int64} {v4 : Int32} {sz : Nat} (hf : c_L_tale_7 h v0 v1 k7 v2 v4 = some res) : SP l X M_L_tale 7 [(0, .ref v0), (1, .int v1), (2, .long v2), (4, .int v4)] [] h sz bc bs Q := by
  rw [c_L_tale_7] at hf
  refine sp_iload (pc := 7) dL_tale_7 3 rfl ?_
  refine sp_bipush (pc := 9) (v := 75) dL_tale_9 (by decide) ?_
  refine sp_icmp_ge (pc := 11) (tgt := 35) dL_tale_11 (by decide) (fun c1 => ?_) (fun c1 => ?_)
  · rw [if_pos c1] at hf
    refine sp_lload_n (pc := 35) dL_tale_35 2 rfl ?_
    obtain rfl := Option.some.inj hf
    exact sp_lreturn (pc := 36) dL_tale_36 rfl (hQ _)
  · rw [if_neg c1] at hf
    refine sp_lload_n (pc := 14) dL_tale_14 2 rfl ?_
    refine sp_ldc2 (pc := 15) dL_tale_15 bk_578 ?_
    refine sp_lmul (pc := 18) dL_tale_18 ?_
    refine sp_aload_n (pc := 19) dL_tale_19 0 rfl ?_
    refine sp_iload (pc := 20) dL_tale_20 3 rfl ?_
    refine sp_iload_n (pc := 22) dL_tale_22 1 rfl ?_
    obtain ⟨y2, ey2, hf⟩ := ob hf
    obtain ⟨r3, er3, hf⟩ := ob hf
    obtain ⟨fsy2, hoy2⟩ := o_X7_get ey2
    refine sp_callVi (pc := 23) (z := M_X7_get) (As := [.int v4, .int v1]) (b := v0) (bc2 := bc) (bs2 := bs) (m_X7_get (Q := _) (fun sz => ⟨r3, outT_e er3, ?_⟩) (rt_no er3) ey2) rfl dL_tale_23 hoy2 rfl rfl ck_L_tale_46 (Nat.le_of_ble_eq_true rfl) rfl rfl rfl
    refine sp_i2l (pc := 26) dL_tale_26 ?_
    refine sp_ladd (pc := 27) dL_tale_27 ?_
    refine sp_lstore_n (pc := 28) (lv' := [(2, .long ((v2 * 1009) + (Int32.toInt64 r3))), (0, .ref v0), (1, .int v1), (4, .int v4)]) dL_tale_28 (by decide) rfl ?_
    refine sp_iinc (pc := 29) (v := v4 + 1) (lv' := [(4, .int (v4 + 1)), (2, .long ((v2 * 1009) + (Int32.toInt64 r3))), (0, .ref v0), (1, .int v1)]) dL_tale_29 3 rfl rfl (by decide) rfl ?_
    refine sp_goto (pc := 32) (tgt := 7) dL_tale_32 (by decide) ?_
    exact sp_sub [2, 3, 1, 0] rfl (hk7 _ _ _ hf)

theorem w_L_tale_7 {l : Launch} {X : SCR} {Q : PST} {bc bs : Nat} {res : Int64} {h : HP} (hQ : ∀ sz', Q (.inl (some (.long res))) h sz') {v0 : Nat} {v1 : Int32} : ∀ (n : Nat) {v2 : Int64} {v4 : Int32} {sz : Nat}, b_L_tale_7 h v0 v1 n v2 v4 = some res → SP l X M_L_tale 7 [(0, .ref v0), (1, .int v1), (2, .long v2), (4, .int v4)] [] h sz bc bs Q := by
  intro n
  induction n with
  | zero =>
    intro v2 v4 sz hf
    rw [b_L_tale_7] at hf
    cases hf
  | succ n ih =>
    intro v2 v4 sz hf
    rw [b_L_tale_7] at hf
    exact wc_L_tale_7 hQ (fun v2 v4 sz hf => ih hf) hf

theorem w_L_tale_0 {l : Launch} {X : SCR} {Q : PST} {bc bs : Nat} {res : Int64} {h : HP} (hQ : ∀ sz', Q (.inl (some (.long res))) h sz') {v0 : Nat} {v1 : Int32} {sz : Nat} (hf : b_L_tale_0 h v0 v1  = some res) : SP l X M_L_tale 0 [(0, .ref v0), (1, .int v1)] [] h sz bc bs Q := by
  rw [b_L_tale_0] at hf
  refine sp_ldc2 (pc := 0) dL_tale_0 bk_577 ?_
  refine sp_lstore_n (pc := 3) (lv' := [(2, .long 113), (0, .ref v0), (1, .int v1)]) dL_tale_3 (by decide) rfl ?_
  refine sp_iconst (pc := 4) (v := 0) dL_tale_4 (by decide) ?_
  refine sp_istore (pc := 5) (lv' := [(4, .int 0), (2, .long 113), (0, .ref v0), (1, .int v1)]) dL_tale_5 (by decide) rfl ?_
  exact sp_sub [2, 3, 1, 0] rfl (w_L_tale_7 hQ FU hf)

theorem m_L_tale {l : Launch} {Q : PST} {h : HP} {v0 : Nat} {v1 : Int32} {sz : Nat} {res : Int64} (hQ : ∀ sz', Q (.inl (some (.long res))) h sz') (hf : f_L_tale h v0 v1 = some res) : MM l M_L_tale [.ref v0, .int v1] h sz Q := by
  rw [f_L_tale] at hf
  exact MM_of wok_L_tale (by decide +kernel) (Nat.le_of_ble_eq_true rfl) ((w_L_tale_0 hQ hf))

theorem dL_areWritesSo_0 : decode (mB M_L_areWritesSo) 0 = .ok (.iconst 0, 1) := by decide +kernel
theorem dL_areWritesSo_1 : decode (mB M_L_areWritesSo) 1 = .ok (.istore_n 1, 1) := by decide +kernel
theorem dL_areWritesSo_2 : decode (mB M_L_areWritesSo) 2 = .ok (.iconst 0, 1) := by decide +kernel
theorem dL_areWritesSo_3 : decode (mB M_L_areWritesSo) 3 = .ok (.istore_n 2, 1) := by decide +kernel
theorem dL_areWritesSo_4 : decode (mB M_L_areWritesSo) 4 = .ok (.aload_n 0, 1) := by decide +kernel
theorem dL_areWritesSo_5 : decode (mB M_L_areWritesSo) 5 = .ok (.iconst 0, 1) := by decide +kernel
theorem dL_areWritesSo_6 : decode (mB M_L_areWritesSo) 6 = .ok (.invokevirtual 8, 3) := by decide +kernel
theorem dL_areWritesSo_9 : decode (mB M_L_areWritesSo) 9 = .ok (.iconst 1, 1) := by decide +kernel
theorem dL_areWritesSo_10 : decode (mB M_L_areWritesSo) 10 = .ok (.iadd, 1) := by decide +kernel
theorem dL_areWritesSo_11 : decode (mB M_L_areWritesSo) 11 = .ok (.istore_n 3, 1) := by decide +kernel
theorem dL_areWritesSo_12 : decode (mB M_L_areWritesSo) 12 = .ok (.iconst 1, 1) := by decide +kernel
theorem dL_areWritesSo_13 : decode (mB M_L_areWritesSo) 13 = .ok (.istore 4, 2) := by decide +kernel
theorem dL_areWritesSo_15 : decode (mB M_L_areWritesSo) 15 = .ok (.iconst (-1), 1) := by decide +kernel
theorem dL_areWritesSo_16 : decode (mB M_L_areWritesSo) 16 = .ok (.istore 5, 2) := by decide +kernel
theorem dL_areWritesSo_18 : decode (mB M_L_areWritesSo) 18 = .ok (.iload 5, 2) := by decide +kernel
theorem dL_areWritesSo_20 : decode (mB M_L_areWritesSo) 20 = .ok (.aload_n 0, 1) := by decide +kernel
theorem dL_areWritesSo_21 : decode (mB M_L_areWritesSo) 21 = .ok (.iconst 2, 1) := by decide +kernel
theorem dL_areWritesSo_22 : decode (mB M_L_areWritesSo) 22 = .ok (.invokevirtual 8, 3) := by decide +kernel
theorem dL_areWritesSo_25 : decode (mB M_L_areWritesSo) 25 = .ok (.if_icmp .ge 290, 3) := by decide +kernel
theorem dL_areWritesSo_28 : decode (mB M_L_areWritesSo) 28 = .ok (.aload_n 0, 1) := by decide +kernel
theorem dL_areWritesSo_29 : decode (mB M_L_areWritesSo) 29 = .ok (.iload 5, 2) := by decide +kernel
theorem dL_areWritesSo_31 : decode (mB M_L_areWritesSo) 31 = .ok (.iconst 0, 1) := by decide +kernel
theorem dL_areWritesSo_32 : decode (mB M_L_areWritesSo) 32 = .ok (.invokevirtual 49, 3) := by decide +kernel
theorem dL_areWritesSo_35 : decode (mB M_L_areWritesSo) 35 = .ok (.aload_n 0, 1) := by decide +kernel
theorem dL_areWritesSo_36 : decode (mB M_L_areWritesSo) 36 = .ok (.iload 5, 2) := by decide +kernel
theorem dL_areWritesSo_38 : decode (mB M_L_areWritesSo) 38 = .ok (.iconst 1, 1) := by decide +kernel
theorem dL_areWritesSo_39 : decode (mB M_L_areWritesSo) 39 = .ok (.invokevirtual 49, 3) := by decide +kernel
theorem dL_areWritesSo_42 : decode (mB M_L_areWritesSo) 42 = .ok (.iadd, 1) := by decide +kernel
theorem dL_areWritesSo_43 : decode (mB M_L_areWritesSo) 43 = .ok (.istore 6, 2) := by decide +kernel
theorem dL_areWritesSo_45 : decode (mB M_L_areWritesSo) 45 = .ok (.iconst 0, 1) := by decide +kernel
theorem dL_areWritesSo_46 : decode (mB M_L_areWritesSo) 46 = .ok (.istore 7, 2) := by decide +kernel
theorem dL_areWritesSo_48 : decode (mB M_L_areWritesSo) 48 = .ok (.iconst 0, 1) := by decide +kernel
theorem dL_areWritesSo_49 : decode (mB M_L_areWritesSo) 49 = .ok (.istore 8, 2) := by decide +kernel
theorem dL_areWritesSo_51 : decode (mB M_L_areWritesSo) 51 = .ok (.iconst 0, 1) := by decide +kernel
theorem dL_areWritesSo_52 : decode (mB M_L_areWritesSo) 52 = .ok (.istore 9, 2) := by decide +kernel
theorem dL_areWritesSo_54 : decode (mB M_L_areWritesSo) 54 = .ok (.iload 9, 2) := by decide +kernel
theorem dL_areWritesSo_56 : decode (mB M_L_areWritesSo) 56 = .ok (.iload 6, 2) := by decide +kernel
theorem dL_areWritesSo_58 : decode (mB M_L_areWritesSo) 58 = .ok (.if_icmp .ge 166, 3) := by decide +kernel
theorem dL_areWritesSo_61 : decode (mB M_L_areWritesSo) 61 = .ok (.aload_n 0, 1) := by decide +kernel
theorem dL_areWritesSo_62 : decode (mB M_L_areWritesSo) 62 = .ok (.iload 5, 2) := by decide +kernel
theorem dL_areWritesSo_64 : decode (mB M_L_areWritesSo) 64 = .ok (.iload 9, 2) := by decide +kernel
theorem dL_areWritesSo_66 : decode (mB M_L_areWritesSo) 66 = .ok (.iconst 0, 1) := by decide +kernel
theorem dL_areWritesSo_67 : decode (mB M_L_areWritesSo) 67 = .ok (.invokevirtual 52, 3) := by decide +kernel
theorem dL_areWritesSo_70 : decode (mB M_L_areWritesSo) 70 = .ok (.istore 10, 2) := by decide +kernel
theorem dL_areWritesSo_72 : decode (mB M_L_areWritesSo) 72 = .ok (.aload_n 0, 1) := by decide +kernel
theorem dL_areWritesSo_73 : decode (mB M_L_areWritesSo) 73 = .ok (.iload 5, 2) := by decide +kernel
theorem dL_areWritesSo_75 : decode (mB M_L_areWritesSo) 75 = .ok (.iload 9, 2) := by decide +kernel
theorem dL_areWritesSo_77 : decode (mB M_L_areWritesSo) 77 = .ok (.iconst 1, 1) := by decide +kernel
theorem dL_areWritesSo_78 : decode (mB M_L_areWritesSo) 78 = .ok (.invokevirtual 52, 3) := by decide +kernel
theorem dL_areWritesSo_81 : decode (mB M_L_areWritesSo) 81 = .ok (.istore 11, 2) := by decide +kernel
theorem dL_areWritesSo_83 : decode (mB M_L_areWritesSo) 83 = .ok (.aload_n 0, 1) := by decide +kernel
theorem dL_areWritesSo_84 : decode (mB M_L_areWritesSo) 84 = .ok (.iload 5, 2) := by decide +kernel
theorem dL_areWritesSo_86 : decode (mB M_L_areWritesSo) 86 = .ok (.iload 9, 2) := by decide +kernel
theorem dL_areWritesSo_88 : decode (mB M_L_areWritesSo) 88 = .ok (.iconst 2, 1) := by decide +kernel
theorem dL_areWritesSo_89 : decode (mB M_L_areWritesSo) 89 = .ok (.invokevirtual 52, 3) := by decide +kernel
theorem dL_areWritesSo_92 : decode (mB M_L_areWritesSo) 92 = .ok (.istore 12, 2) := by decide +kernel
theorem dL_areWritesSo_94 : decode (mB M_L_areWritesSo) 94 = .ok (.aload_n 0, 1) := by decide +kernel
theorem dL_areWritesSo_95 : decode (mB M_L_areWritesSo) 95 = .ok (.iload 5, 2) := by decide +kernel
theorem dL_areWritesSo_97 : decode (mB M_L_areWritesSo) 97 = .ok (.iload 9, 2) := by decide +kernel
theorem dL_areWritesSo_99 : decode (mB M_L_areWritesSo) 99 = .ok (.iconst 3, 1) := by decide +kernel
theorem dL_areWritesSo_100 : decode (mB M_L_areWritesSo) 100 = .ok (.invokevirtual 52, 3) := by decide +kernel
theorem dL_areWritesSo_103 : decode (mB M_L_areWritesSo) 103 = .ok (.istore 13, 2) := by decide +kernel
theorem dL_areWritesSo_105 : decode (mB M_L_areWritesSo) 105 = .ok (.iload 7, 2) := by decide +kernel
theorem dL_areWritesSo_107 : decode (mB M_L_areWritesSo) 107 = .ok (.iload 13, 2) := by decide +kernel
theorem dL_areWritesSo_109 : decode (mB M_L_areWritesSo) 109 = .ok (.ifCond .le 7, 3) := by decide +kernel
theorem dL_areWritesSo_112 : decode (mB M_L_areWritesSo) 112 = .ok (.iconst 1, 1) := by decide +kernel
theorem dL_areWritesSo_113 : decode (mB M_L_areWritesSo) 113 = .ok (.goto 4, 3) := by decide +kernel
theorem dL_areWritesSo_116 : decode (mB M_L_areWritesSo) 116 = .ok (.iconst 0, 1) := by decide +kernel
theorem dL_areWritesSo_117 : decode (mB M_L_areWritesSo) 117 = .ok (.iadd, 1) := by decide +kernel
theorem dL_areWritesSo_118 : decode (mB M_L_areWritesSo) 118 = .ok (.istore 7, 2) := by decide +kernel
theorem dL_areWritesSo_120 : decode (mB M_L_areWritesSo) 120 = .ok (.iload 4, 2) := by decide +kernel
theorem dL_areWritesSo_122 : decode (mB M_L_areWritesSo) 122 = .ok (.ifCond .eq 83, 3) := by decide +kernel
theorem dL_areWritesSo_125 : decode (mB M_L_areWritesSo) 125 = .ok (.bipush 100, 2) := by decide +kernel
theorem dL_areWritesSo_127 : decode (mB M_L_areWritesSo) 127 = .ok (.iload 10, 2) := by decide +kernel
theorem dL_areWritesSo_129 : decode (mB M_L_areWritesSo) 129 = .ok (.imul, 1) := by decide +kernel
theorem dL_areWritesSo_130 : decode (mB M_L_areWritesSo) 130 = .ok (.iload 11, 2) := by decide +kernel
theorem dL_areWritesSo_132 : decode (mB M_L_areWritesSo) 132 = .ok (.iadd, 1) := by decide +kernel
theorem dL_areWritesSo_133 : decode (mB M_L_areWritesSo) 133 = .ok (.iload 8, 2) := by decide +kernel
theorem dL_areWritesSo_135 : decode (mB M_L_areWritesSo) 135 = .ok (.if_icmp .le 70, 3) := by decide +kernel
theorem dL_areWritesSo_138 : decode (mB M_L_areWritesSo) 138 = .ok (.iload 10, 2) := by decide +kernel
theorem dL_areWritesSo_140 : decode (mB M_L_areWritesSo) 140 = .ok (.iload_n 3, 1) := by decide +kernel
theorem dL_areWritesSo_141 : decode (mB M_L_areWritesSo) 141 = .ok (.if_icmp .ge 64, 3) := by decide +kernel
theorem dL_areWritesSo_144 : decode (mB M_L_areWritesSo) 144 = .ok (.iload 11, 2) := by decide +kernel
theorem dL_areWritesSo_146 : decode (mB M_L_areWritesSo) 146 = .ok (.iload 12, 2) := by decide +kernel
theorem dL_areWritesSo_148 : decode (mB M_L_areWritesSo) 148 = .ok (.if_icmp .gt 57, 3) := by decide +kernel
theorem dL_areWritesSo_151 : decode (mB M_L_areWritesSo) 151 = .ok (.iload 13, 2) := by decide +kernel
theorem dL_areWritesSo_153 : decode (mB M_L_areWritesSo) 153 = .ok (.ifCond .eq 10, 3) := by decide +kernel
theorem dL_areWritesSo_156 : decode (mB M_L_areWritesSo) 156 = .ok (.iload 11, 2) := by decide +kernel
theorem dL_areWritesSo_158 : decode (mB M_L_areWritesSo) 158 = .ok (.iload 12, 2) := by decide +kernel
theorem dL_areWritesSo_160 : decode (mB M_L_areWritesSo) 160 = .ok (.if_icmp .ne 45, 3) := by decide +kernel
theorem dL_areWritesSo_163 : decode (mB M_L_areWritesSo) 163 = .ok (.iload 9, 2) := by decide +kernel
theorem dL_areWritesSo_165 : decode (mB M_L_areWritesSo) 165 = .ok (.ifCond .gt 15, 3) := by decide +kernel
theorem dL_areWritesSo_168 : decode (mB M_L_areWritesSo) 168 = .ok (.iload 10, 2) := by decide +kernel
theorem dL_areWritesSo_170 : decode (mB M_L_areWritesSo) 170 = .ok (.aload_n 0, 1) := by decide +kernel
theorem dL_areWritesSo_171 : decode (mB M_L_areWritesSo) 171 = .ok (.iload 5, 2) := by decide +kernel
theorem dL_areWritesSo_173 : decode (mB M_L_areWritesSo) 173 = .ok (.iconst 2, 1) := by decide +kernel
theorem dL_areWritesSo_174 : decode (mB M_L_areWritesSo) 174 = .ok (.invokevirtual 49, 3) := by decide +kernel
theorem dL_areWritesSo_177 : decode (mB M_L_areWritesSo) 177 = .ok (.if_icmp .ne 28, 3) := by decide +kernel
theorem dL_areWritesSo_180 : decode (mB M_L_areWritesSo) 180 = .ok (.iload 9, 2) := by decide +kernel
theorem dL_areWritesSo_182 : decode (mB M_L_areWritesSo) 182 = .ok (.iload 6, 2) := by decide +kernel
theorem dL_areWritesSo_184 : decode (mB M_L_areWritesSo) 184 = .ok (.iconst 1, 1) := by decide +kernel
theorem dL_areWritesSo_185 : decode (mB M_L_areWritesSo) 185 = .ok (.isub, 1) := by decide +kernel
theorem dL_areWritesSo_186 : decode (mB M_L_areWritesSo) 186 = .ok (.if_icmp .lt 15, 3) := by decide +kernel
theorem dL_areWritesSo_189 : decode (mB M_L_areWritesSo) 189 = .ok (.iload 10, 2) := by decide +kernel
theorem dL_areWritesSo_191 : decode (mB M_L_areWritesSo) 191 = .ok (.aload_n 0, 1) := by decide +kernel
theorem dL_areWritesSo_192 : decode (mB M_L_areWritesSo) 192 = .ok (.iload 5, 2) := by decide +kernel
theorem dL_areWritesSo_194 : decode (mB M_L_areWritesSo) 194 = .ok (.iconst 3, 1) := by decide +kernel
theorem dL_areWritesSo_195 : decode (mB M_L_areWritesSo) 195 = .ok (.invokevirtual 49, 3) := by decide +kernel
theorem dL_areWritesSo_198 : decode (mB M_L_areWritesSo) 198 = .ok (.if_icmp .ne 7, 3) := by decide +kernel
theorem dL_areWritesSo_201 : decode (mB M_L_areWritesSo) 201 = .ok (.iconst 1, 1) := by decide +kernel
theorem dL_areWritesSo_202 : decode (mB M_L_areWritesSo) 202 = .ok (.goto 4, 3) := by decide +kernel
theorem dL_areWritesSo_205 : decode (mB M_L_areWritesSo) 205 = .ok (.iconst 0, 1) := by decide +kernel
theorem dL_areWritesSo_206 : decode (mB M_L_areWritesSo) 206 = .ok (.istore 4, 2) := by decide +kernel
theorem dL_areWritesSo_208 : decode (mB M_L_areWritesSo) 208 = .ok (.bipush 100, 2) := by decide +kernel
theorem dL_areWritesSo_210 : decode (mB M_L_areWritesSo) 210 = .ok (.iload 10, 2) := by decide +kernel
theorem dL_areWritesSo_212 : decode (mB M_L_areWritesSo) 212 = .ok (.imul, 1) := by decide +kernel
theorem dL_areWritesSo_213 : decode (mB M_L_areWritesSo) 213 = .ok (.iload 12, 2) := by decide +kernel
theorem dL_areWritesSo_215 : decode (mB M_L_areWritesSo) 215 = .ok (.iadd, 1) := by decide +kernel
theorem dL_areWritesSo_216 : decode (mB M_L_areWritesSo) 216 = .ok (.istore 8, 2) := by decide +kernel
theorem dL_areWritesSo_218 : decode (mB M_L_areWritesSo) 218 = .ok (.iinc 9 1, 3) := by decide +kernel
theorem dL_areWritesSo_221 : decode (mB M_L_areWritesSo) 221 = .ok (.goto (-167), 3) := by decide +kernel
theorem dL_areWritesSo_224 : decode (mB M_L_areWritesSo) 224 = .ok (.iload_n 1, 1) := by decide +kernel
theorem dL_areWritesSo_225 : decode (mB M_L_areWritesSo) 225 = .ok (.iload 6, 2) := by decide +kernel
theorem dL_areWritesSo_227 : decode (mB M_L_areWritesSo) 227 = .ok (.iadd, 1) := by decide +kernel
theorem dL_areWritesSo_228 : decode (mB M_L_areWritesSo) 228 = .ok (.istore_n 1, 1) := by decide +kernel
theorem dL_areWritesSo_229 : decode (mB M_L_areWritesSo) 229 = .ok (.iload_n 2, 1) := by decide +kernel
theorem dL_areWritesSo_230 : decode (mB M_L_areWritesSo) 230 = .ok (.iload 7, 2) := by decide +kernel
theorem dL_areWritesSo_232 : decode (mB M_L_areWritesSo) 232 = .ok (.iadd, 1) := by decide +kernel
theorem dL_areWritesSo_233 : decode (mB M_L_areWritesSo) 233 = .ok (.istore_n 2, 1) := by decide +kernel
theorem dL_areWritesSo_234 : decode (mB M_L_areWritesSo) 234 = .ok (.iload 4, 2) := by decide +kernel
theorem dL_areWritesSo_236 : decode (mB M_L_areWritesSo) 236 = .ok (.ifCond .eq 53, 3) := by decide +kernel
theorem dL_areWritesSo_239 : decode (mB M_L_areWritesSo) 239 = .ok (.iload 7, 2) := by decide +kernel
theorem dL_areWritesSo_241 : decode (mB M_L_areWritesSo) 241 = .ok (.aload_n 0, 1) := by decide +kernel
theorem dL_areWritesSo_242 : decode (mB M_L_areWritesSo) 242 = .ok (.iload 5, 2) := by decide +kernel
theorem dL_areWritesSo_244 : decode (mB M_L_areWritesSo) 244 = .ok (.iconst 0, 1) := by decide +kernel
theorem dL_areWritesSo_245 : decode (mB M_L_areWritesSo) 245 = .ok (.invokevirtual 49, 3) := by decide +kernel
theorem dL_areWritesSo_248 : decode (mB M_L_areWritesSo) 248 = .ok (.if_icmp .ne 41, 3) := by decide +kernel
theorem dL_areWritesSo_251 : decode (mB M_L_areWritesSo) 251 = .ok (.aload_n 0, 1) := by decide +kernel
theorem dL_areWritesSo_252 : decode (mB M_L_areWritesSo) 252 = .ok (.iload 5, 2) := by decide +kernel
theorem dL_areWritesSo_254 : decode (mB M_L_areWritesSo) 254 = .ok (.iload 6, 2) := by decide +kernel
theorem dL_areWritesSo_256 : decode (mB M_L_areWritesSo) 256 = .ok (.iconst 0, 1) := by decide +kernel
theorem dL_areWritesSo_257 : decode (mB M_L_areWritesSo) 257 = .ok (.invokevirtual 52, 3) := by decide +kernel
theorem dL_areWritesSo_260 : decode (mB M_L_areWritesSo) 260 = .ok (.iconst (-1), 1) := by decide +kernel
theorem dL_areWritesSo_261 : decode (mB M_L_areWritesSo) 261 = .ok (.if_icmp .ne 28, 3) := by decide +kernel
theorem dL_areWritesSo_264 : decode (mB M_L_areWritesSo) 264 = .ok (.iload 6, 2) := by decide +kernel
theorem dL_areWritesSo_266 : decode (mB M_L_areWritesSo) 266 = .ok (.ifCond .gt 19, 3) := by decide +kernel
theorem dL_areWritesSo_269 : decode (mB M_L_areWritesSo) 269 = .ok (.iload 5, 2) := by decide +kernel
theorem dL_areWritesSo_271 : decode (mB M_L_areWritesSo) 271 = .ok (.ifCond .ge 18, 3) := by decide +kernel
theorem dL_areWritesSo_274 : decode (mB M_L_areWritesSo) 274 = .ok (.aload_n 0, 1) := by decide +kernel
theorem dL_areWritesSo_275 : decode (mB M_L_areWritesSo) 275 = .ok (.iload 5, 2) := by decide +kernel
theorem dL_areWritesSo_277 : decode (mB M_L_areWritesSo) 277 = .ok (.iconst 2, 1) := by decide +kernel
theorem dL_areWritesSo_278 : decode (mB M_L_areWritesSo) 278 = .ok (.invokevirtual 49, 3) := by decide +kernel
theorem dL_areWritesSo_281 : decode (mB M_L_areWritesSo) 281 = .ok (.iconst (-1), 1) := by decide +kernel
theorem dL_areWritesSo_282 : decode (mB M_L_areWritesSo) 282 = .ok (.if_icmp .ne 7, 3) := by decide +kernel
theorem dL_areWritesSo_285 : decode (mB M_L_areWritesSo) 285 = .ok (.iconst 1, 1) := by decide +kernel
theorem dL_areWritesSo_286 : decode (mB M_L_areWritesSo) 286 = .ok (.goto 4, 3) := by decide +kernel
theorem dL_areWritesSo_289 : decode (mB M_L_areWritesSo) 289 = .ok (.iconst 0, 1) := by decide +kernel
theorem dL_areWritesSo_290 : decode (mB M_L_areWritesSo) 290 = .ok (.istore 4, 2) := by decide +kernel
theorem dL_areWritesSo_292 : decode (mB M_L_areWritesSo) 292 = .ok (.iload 6, 2) := by decide +kernel
theorem dL_areWritesSo_294 : decode (mB M_L_areWritesSo) 294 = .ok (.ifCond .ne 7, 3) := by decide +kernel
theorem dL_areWritesSo_297 : decode (mB M_L_areWritesSo) 297 = .ok (.iload_n 3, 1) := by decide +kernel
theorem dL_areWritesSo_298 : decode (mB M_L_areWritesSo) 298 = .ok (.goto 10, 3) := by decide +kernel
theorem dL_areWritesSo_301 : decode (mB M_L_areWritesSo) 301 = .ok (.aload_n 0, 1) := by decide +kernel
theorem dL_areWritesSo_302 : decode (mB M_L_areWritesSo) 302 = .ok (.iload 5, 2) := by decide +kernel
theorem dL_areWritesSo_304 : decode (mB M_L_areWritesSo) 304 = .ok (.iconst 2, 1) := by decide +kernel
theorem dL_areWritesSo_305 : decode (mB M_L_areWritesSo) 305 = .ok (.invokevirtual 49, 3) := by decide +kernel
theorem dL_areWritesSo_308 : decode (mB M_L_areWritesSo) 308 = .ok (.istore_n 3, 1) := by decide +kernel
theorem dL_areWritesSo_309 : decode (mB M_L_areWritesSo) 309 = .ok (.iinc 5 1, 3) := by decide +kernel
theorem dL_areWritesSo_312 : decode (mB M_L_areWritesSo) 312 = .ok (.goto (-294), 3) := by decide +kernel
theorem dL_areWritesSo_315 : decode (mB M_L_areWritesSo) 315 = .ok (.iload 4, 2) := by decide +kernel
theorem dL_areWritesSo_317 : decode (mB M_L_areWritesSo) 317 = .ok (.ifCond .eq 61, 3) := by decide +kernel
theorem dL_areWritesSo_320 : decode (mB M_L_areWritesSo) 320 = .ok (.iload_n 1, 1) := by decide +kernel
theorem dL_areWritesSo_321 : decode (mB M_L_areWritesSo) 321 = .ok (.aload_n 0, 1) := by decide +kernel
theorem dL_areWritesSo_322 : decode (mB M_L_areWritesSo) 322 = .ok (.iconst 4, 1) := by decide +kernel
theorem dL_areWritesSo_323 : decode (mB M_L_areWritesSo) 323 = .ok (.invokevirtual 8, 3) := by decide +kernel
theorem dL_areWritesSo_326 : decode (mB M_L_areWritesSo) 326 = .ok (.if_icmp .ne 52, 3) := by decide +kernel
theorem dL_areWritesSo_329 : decode (mB M_L_areWritesSo) 329 = .ok (.iload_n 2, 1) := by decide +kernel
theorem dL_areWritesSo_330 : decode (mB M_L_areWritesSo) 330 = .ok (.aload_n 0, 1) := by decide +kernel
theorem dL_areWritesSo_331 : decode (mB M_L_areWritesSo) 331 = .ok (.iconst 5, 1) := by decide +kernel
theorem dL_areWritesSo_332 : decode (mB M_L_areWritesSo) 332 = .ok (.invokevirtual 8, 3) := by decide +kernel
theorem dL_areWritesSo_335 : decode (mB M_L_areWritesSo) 335 = .ok (.if_icmp .ne 43, 3) := by decide +kernel
theorem dL_areWritesSo_338 : decode (mB M_L_areWritesSo) 338 = .ok (.iload_n 1, 1) := by decide +kernel
theorem dL_areWritesSo_339 : decode (mB M_L_areWritesSo) 339 = .ok (.bipush 48, 2) := by decide +kernel
theorem dL_areWritesSo_341 : decode (mB M_L_areWritesSo) 341 = .ok (.if_icmp .gt 37, 3) := by decide +kernel
theorem dL_areWritesSo_344 : decode (mB M_L_areWritesSo) 344 = .ok (.aload_n 0, 1) := by decide +kernel
theorem dL_areWritesSo_345 : decode (mB M_L_areWritesSo) 345 = .ok (.iconst 1, 1) := by decide +kernel
theorem dL_areWritesSo_346 : decode (mB M_L_areWritesSo) 346 = .ok (.invokevirtual 8, 3) := by decide +kernel
theorem dL_areWritesSo_349 : decode (mB M_L_areWritesSo) 349 = .ok (.aload_n 0, 1) := by decide +kernel
theorem dL_areWritesSo_350 : decode (mB M_L_areWritesSo) 350 = .ok (.iconst (-1), 1) := by decide +kernel
theorem dL_areWritesSo_351 : decode (mB M_L_areWritesSo) 351 = .ok (.iconst 0, 1) := by decide +kernel
theorem dL_areWritesSo_352 : decode (mB M_L_areWritesSo) 352 = .ok (.invokevirtual 49, 3) := by decide +kernel
theorem dL_areWritesSo_355 : decode (mB M_L_areWritesSo) 355 = .ok (.aload_n 0, 1) := by decide +kernel
theorem dL_areWritesSo_356 : decode (mB M_L_areWritesSo) 356 = .ok (.iconst (-1), 1) := by decide +kernel
theorem dL_areWritesSo_357 : decode (mB M_L_areWritesSo) 357 = .ok (.iconst 1, 1) := by decide +kernel
theorem dL_areWritesSo_358 : decode (mB M_L_areWritesSo) 358 = .ok (.invokevirtual 49, 3) := by decide +kernel
theorem dL_areWritesSo_361 : decode (mB M_L_areWritesSo) 361 = .ok (.iadd, 1) := by decide +kernel
theorem dL_areWritesSo_362 : decode (mB M_L_areWritesSo) 362 = .ok (.if_icmp .ne 16, 3) := by decide +kernel
theorem dL_areWritesSo_365 : decode (mB M_L_areWritesSo) 365 = .ok (.aload_n 0, 1) := by decide +kernel
theorem dL_areWritesSo_366 : decode (mB M_L_areWritesSo) 366 = .ok (.iconst 2, 1) := by decide +kernel
theorem dL_areWritesSo_367 : decode (mB M_L_areWritesSo) 367 = .ok (.invokevirtual 8, 3) := by decide +kernel
theorem dL_areWritesSo_370 : decode (mB M_L_areWritesSo) 370 = .ok (.iconst 5, 1) := by decide +kernel
theorem dL_areWritesSo_371 : decode (mB M_L_areWritesSo) 371 = .ok (.if_icmp .gt 7, 3) := by decide +kernel
theorem dL_areWritesSo_374 : decode (mB M_L_areWritesSo) 374 = .ok (.iconst 1, 1) := by decide +kernel
theorem dL_areWritesSo_375 : decode (mB M_L_areWritesSo) 375 = .ok (.goto 4, 3) := by decide +kernel
theorem dL_areWritesSo_378 : decode (mB M_L_areWritesSo) 378 = .ok (.iconst 0, 1) := by decide +kernel
theorem dL_areWritesSo_379 : decode (mB M_L_areWritesSo) 379 = .ok (.ireturn, 1) := by decide +kernel
def b_L_areWritesSo_290 (v0 : Nat) (k18 : HP → Int32 → Int32 → Int32 → Int32 → Int32 → Option (Int32 × HP)) (h : HP) (v1 : Int32) (v2 : Int32) (v3 : Int32) (v5 : Int32) (v6 : Int32) (s0 : Int32) : Option (Int32 × HP) :=
  if v6 = 0 then k18 h v1 v2 v3 s0 (v5 + 1) else (f_X7_run h v0 v5 2).bind fun y2 => (rt y2).bind fun r3 => k18 h v1 v2 r3 s0 (v5 + 1)
def b_L_areWritesSo_206 (v0 : Nat) (k18 : HP → Int32 → Int32 → Int32 → Int32 → Int32 → Option (Int32 × HP)) (k54 : HP → Int32 → Int32 → Int32 → Int32 → Int32 → Int32 → Int32 → Int32 → Int32 → Option (Int32 × HP)) (h : HP) (v1 : Int32) (v2 : Int32) (v3 : Int32) (v5 : Int32) (v6 : Int32) (v7 : Int32) (v9 : Int32) (v10 : Int32) (v12 : Int32) (s0 : Int32) : Option (Int32 × HP) :=
  k54 h v1 v2 v3 s0 v5 v6 v7 ((100 * v10) + v12) (v9 + 1)
def b_L_areWritesSo_180 (v0 : Nat) (k18 : HP → Int32 → Int32 → Int32 → Int32 → Int32 → Option (Int32 × HP)) (k54 : HP → Int32 → Int32 → Int32 → Int32 → Int32 → Int32 → Int32 → Int32 → Int32 → Option (Int32 × HP)) (h : HP) (v1 : Int32) (v2 : Int32) (v3 : Int32) (v5 : Int32) (v6 : Int32) (v7 : Int32) (v9 : Int32) (v10 : Int32) (v12 : Int32) : Option (Int32 × HP) :=
  if v9 < (v6 - 1) then b_L_areWritesSo_206 v0 k18 k54 h v1 v2 v3 v5 v6 v7 v9 v10 v12 1 else (f_X7_run h v0 v5 3).bind fun y2 => (rt y2).bind fun r3 => if v10 = r3 then b_L_areWritesSo_206 v0 k18 k54 h v1 v2 v3 v5 v6 v7 v9 v10 v12 1 else b_L_areWritesSo_206 v0 k18 k54 h v1 v2 v3 v5 v6 v7 v9 v10 v12 0
def b_L_areWritesSo_163 (v0 : Nat) (k18 : HP → Int32 → Int32 → Int32 → Int32 → Int32 → Option (Int32 × HP)) (k54 : HP → Int32 → Int32 → Int32 → Int32 → Int32 → Int32 → Int32 → Int32 → Int32 → Option (Int32 × HP)) (h : HP) (v1 : Int32) (v2 : Int32) (v3 : Int32) (v5 : Int32) (v6 : Int32) (v7 : Int32) (v9 : Int32) (v10 : Int32) (v12 : Int32) : Option (Int32 × HP) :=
  if 0 < v9 then b_L_areWritesSo_180 v0 k18 k54 h v1 v2 v3 v5 v6 v7 v9 v10 v12 else (f_X7_run h v0 v5 2).bind fun y2 => (rt y2).bind fun r3 => if v10 = r3 then b_L_areWritesSo_180 v0 k18 k54 h v1 v2 v3 v5 v6 v7 v9 v10 v12 else b_L_areWritesSo_206 v0 k18 k54 h v1 v2 v3 v5 v6 v7 v9 v10 v12 0
def b_L_areWritesSo_117 (v0 : Nat) (k18 : HP → Int32 → Int32 → Int32 → Int32 → Int32 → Option (Int32 × HP)) (k54 : HP → Int32 → Int32 → Int32 → Int32 → Int32 → Int32 → Int32 → Int32 → Int32 → Option (Int32 × HP)) (h : HP) (v1 : Int32) (v2 : Int32) (v3 : Int32) (v4 : Int32) (v5 : Int32) (v6 : Int32) (v8 : Int32) (v9 : Int32) (v10 : Int32) (v11 : Int32) (v12 : Int32) (v13 : Int32) (s0 : Int32) (s1 : Int32) : Option (Int32 × HP) :=
  if v4 = 0 then b_L_areWritesSo_206 v0 k18 k54 h v1 v2 v3 v5 v6 (s0 + s1) v9 v10 v12 0 else if ((100 * v10) + v11) ≤ v8 then b_L_areWritesSo_206 v0 k18 k54 h v1 v2 v3 v5 v6 (s0 + s1) v9 v10 v12 0 else if v3 ≤ v10 then b_L_areWritesSo_206 v0 k18 k54 h v1 v2 v3 v5 v6 (s0 + s1) v9 v10 v12 0 else if v12 < v11 then b_L_areWritesSo_206 v0 k18 k54 h v1 v2 v3 v5 v6 (s0 + s1) v9 v10 v12 0 else if v13 = 0 then b_L_areWritesSo_163 v0 k18 k54 h v1 v2 v3 v5 v6 (s0 + s1) v9 v10 v12 else if v11 = v12 then b_L_areWritesSo_163 v0 k18 k54 h v1 v2 v3 v5 v6 (s0 + s1) v9 v10 v12 else b_L_areWritesSo_206 v0 k18 k54 h v1 v2 v3 v5 v6 (s0 + s1) v9 v10 v12 0
def c_L_areWritesSo_54 (v0 : Nat) (k18 : HP → Int32 → Int32 → Int32 → Int32 → Int32 → Option (Int32 × HP)) (k54 : HP → Int32 → Int32 → Int32 → Int32 → Int32 → Int32 → Int32 → Int32 → Int32 → Option (Int32 × HP)) (h : HP) (v1 : Int32) (v2 : Int32) (v3 : Int32) (v4 : Int32) (v5 : Int32) (v6 : Int32) (v7 : Int32) (v8 : Int32) (v9 : Int32) : Option (Int32 × HP) :=
  if v6 ≤ v9 then if v4 = 0 then b_L_areWritesSo_290 v0 k18 h (v1 + v6) (v2 + v7) v3 v5 v6 0 else (f_X7_run h v0 v5 0).bind fun y3 => (rt y3).bind fun r4 => if v7 = r4 then (f_X7_write h v0 v5 v6 0).bind fun y6 => (rt y6).bind fun r7 => if r7 = (-1) then if 0 < v6 then b_L_areWritesSo_290 v0 k18 h (v1 + v6) (v2 + v7) v3 v5 v6 1 else if 0 ≤ v5 then b_L_areWritesSo_290 v0 k18 h (v1 + v6) (v2 + v7) v3 v5 v6 0 else (f_X7_run h v0 v5 2).bind fun y11 => (rt y11).bind fun r12 => if r12 = (-1) then b_L_areWritesSo_290 v0 k18 h (v1 + v6) (v2 + v7) v3 v5 v6 1 else b_L_areWritesSo_290 v0 k18 h (v1 + v6) (v2 + v7) v3 v5 v6 0 else b_L_areWritesSo_290 v0 k18 h (v1 + v6) (v2 + v7) v3 v5 v6 0 else b_L_areWritesSo_290 v0 k18 h (v1 + v6) (v2 + v7) v3 v5 v6 0 else (f_X7_write h v0 v5 v9 0).bind fun y14 => (rt y14).bind fun r15 => (f_X7_write h v0 v5 v9 1).bind fun y16 => (rt y16).bind fun r17 => (f_X7_write h v0 v5 v9 2).bind fun y18 => (rt y18).bind fun r19 => (f_X7_write h v0 v5 v9 3).bind fun y20 => (rt y20).bind fun r21 => if r21 ≤ 0 then b_L_areWritesSo_117 v0 k18 k54 h v1 v2 v3 v4 v5 v6 v8 v9 r15 r17 r19 r21 v7 0 else b_L_areWritesSo_117 v0 k18 k54 h v1 v2 v3 v4 v5 v6 v8 v9 r15 r17 r19 r21 v7 1
def b_L_areWritesSo_54 (v0 : Nat) (k18 : HP → Int32 → Int32 → Int32 → Int32 → Int32 → Option (Int32 × HP)) : Nat → HP → Int32 → Int32 → Int32 → Int32 → Int32 → Int32 → Int32 → Int32 → Int32 → Option (Int32 × HP)
  | 0, _, _, _, _, _, _, _, _, _, _ => none
  | n + 1, h, v1, v2, v3, v4, v5, v6, v7, v8, v9 => c_L_areWritesSo_54 v0 k18 (b_L_areWritesSo_54 v0 k18 n) h v1 v2 v3 v4 v5 v6 v7 v8 v9
def c_L_areWritesSo_18 (v0 : Nat) (k18 : HP → Int32 → Int32 → Int32 → Int32 → Int32 → Option (Int32 × HP)) (h : HP) (v1 : Int32) (v2 : Int32) (v3 : Int32) (v4 : Int32) (v5 : Int32) : Option (Int32 × HP) :=
  (f_X7_about h v0 2).bind fun y1 => (rt y1.1).bind fun r2 => if r2 ≤ v5 then if v4 = 0 then some (0, y1.2) else (f_X7_about y1.2 v0 4).bind fun y5 => (rt y5.1).bind fun r6 => if v1 = r6 then (f_X7_about y5.2 v0 5).bind fun y8 => (rt y8.1).bind fun r9 => if v2 = r9 then if 48 < v1 then some (0, y8.2) else (f_X7_about y8.2 v0 1).bind fun y12 => (rt y12.1).bind fun r13 => (f_X7_run y12.2 v0 (-1) 0).bind fun y14 => (rt y14).bind fun r15 => (f_X7_run y12.2 v0 (-1) 1).bind fun y16 => (rt y16).bind fun r17 => if r13 = (r15 + r17) then (f_X7_about y12.2 v0 2).bind fun y19 => (rt y19.1).bind fun r20 => if 5 < r20 then some (0, y19.2) else some (1, y19.2) else some (0, y12.2) else some (0, y8.2) else some (0, y5.2) else (f_X7_run y1.2 v0 v5 0).bind fun y22 => (rt y22).bind fun r23 => (f_X7_run y1.2 v0 v5 1).bind fun y24 => (rt y24).bind fun r25 => b_L_areWritesSo_54 v0 k18 FU y1.2 v1 v2 v3 v4 v5 (r23 + r25) 0 0 0
def b_L_areWritesSo_18 (v0 : Nat) : Nat → HP → Int32 → Int32 → Int32 → Int32 → Int32 → Option (Int32 × HP)
  | 0, _, _, _, _, _, _ => none
  | n + 1, h, v1, v2, v3, v4, v5 => c_L_areWritesSo_18 v0 (b_L_areWritesSo_18 v0 n) h v1 v2 v3 v4 v5
def b_L_areWritesSo_0 (v0 : Nat) (h : HP) : Option (Int32 × HP) :=
  (f_X7_about h v0 0).bind fun y1 => (rt y1.1).bind fun r2 => b_L_areWritesSo_18 v0 FU y1.2 0 0 (r2 + 1) 1 ((-1))
def f_L_areWritesSo (h : HP) (v0 : Nat) : Option (Int32 × HP) := b_L_areWritesSo_0 v0 h
theorem w_L_areWritesSo_290 {l : Launch} {X : SCR} {Q : PST} {bc bs : Nat} {res : Int32 × HP} {h : HP} (hQ : ∀ sz', Q (.inl (some (.int res.1))) res.2 sz') {v0 : Nat} {k18 : HP → Int32 → Int32 → Int32 → Int32 → Int32 → Option (Int32 × HP)} (hk18 : ∀ (h : HP) (v1 : Int32) (v2 : Int32) (v3 : Int32) (v4 : Int32) (v5 : Int32) (sz : Nat), k18 h v1 v2 v3 v4 v5 = some res → SP l X M_L_areWritesSo 18 [(0, .ref v0), (1, .int v1), (2, .int v2), (3, .int v3), (4, .int v4), (5, .int v5)] [] h sz bc bs Q) {v1 : Int32} {v2 : Int32} {v3 : Int32} {v5 : Int32} {v6 : Int32} {s0 : Int32} {sz : Nat} (hf : b_L_areWritesSo_290 v0 k18 h v1 v2 v3 v5 v6 s0 = some res) : SP l X M_L_areWritesSo 290 [(0, .ref v0), (1, .int v1), (2, .int v2), (3, .int v3), (5, .int v5), (6, .int v6)] [.int s0] h sz bc bs Q := by
  rw [b_L_areWritesSo_290] at hf
  refine sp_istore (pc := 290) (lv' := [(4, .int s0), (0, .ref v0), (1, .int v1), (2, .int v2), (3, .int v3), (5, .int v5), (6, .int v6)]) dL_areWritesSo_290 (by decide) rfl ?_
  refine sp_iload (pc := 292) dL_areWritesSo_292 6 rfl ?_
  refine sp_if_ne (pc := 294) (tgt := 301) dL_areWritesSo_294 (by decide) (fun c1 => ?_) (fun c1 => ?_)
  · rw [if_neg c1] at hf
    refine sp_aload_n (pc := 301) dL_areWritesSo_301 1 rfl ?_
    refine sp_iload (pc := 302) dL_areWritesSo_302 5 rfl ?_
    refine sp_iconst (pc := 304) (v := 2) dL_areWritesSo_304 (by decide) ?_
    obtain ⟨y2, ey2, hf⟩ := ob hf
    obtain ⟨r3, er3, hf⟩ := ob hf
    obtain ⟨fsy2, hoy2⟩ := o_X7_run ey2
    refine sp_callVi (pc := 305) (z := M_X7_run) (As := [.int v5, .int 2]) (b := v0) (bc2 := bc) (bs2 := bs) (m_X7_run (Q := _) (fun sz => ⟨r3, outT_e er3, ?_⟩) (rt_no er3) ey2) rfl dL_areWritesSo_305 hoy2 rfl rfl ck_L_areWritesSo_49 (Nat.le_of_ble_eq_true rfl) rfl rfl rfl
    refine sp_istore_n (pc := 308) (lv' := [(3, .int r3), (4, .int s0), (0, .ref v0), (1, .int v1), (2, .int v2), (5, .int v5), (6, .int v6)]) dL_areWritesSo_308 (by decide) rfl ?_
    refine sp_iinc (pc := 309) (v := v5 + 1) (lv' := [(5, .int (v5 + 1)), (3, .int r3), (4, .int s0), (0, .ref v0), (1, .int v1), (2, .int v2), (6, .int v6)]) dL_areWritesSo_309 5 rfl rfl (by decide) rfl ?_
    refine sp_goto (pc := 312) (tgt := 18) dL_areWritesSo_312 (by decide) ?_
    exact sp_sub [3, 4, 5, 1, 2, 0] rfl (hk18 _ _ _ _ _ _ _ hf)
  · rw [if_pos c1] at hf
    refine sp_iload_n (pc := 297) dL_areWritesSo_297 4 rfl ?_
    refine sp_goto (pc := 298) (tgt := 308) dL_areWritesSo_298 (by decide) ?_
    refine sp_istore_n (pc := 308) (lv' := [(3, .int v3), (4, .int s0), (0, .ref v0), (1, .int v1), (2, .int v2), (5, .int v5), (6, .int v6)]) dL_areWritesSo_308 (by decide) rfl ?_
    refine sp_iinc (pc := 309) (v := v5 + 1) (lv' := [(5, .int (v5 + 1)), (3, .int v3), (4, .int s0), (0, .ref v0), (1, .int v1), (2, .int v2), (6, .int v6)]) dL_areWritesSo_309 5 rfl rfl (by decide) rfl ?_
    refine sp_goto (pc := 312) (tgt := 18) dL_areWritesSo_312 (by decide) ?_
    exact sp_sub [3, 4, 5, 1, 2, 0] rfl (hk18 _ _ _ _ _ _ _ hf)

theorem w_L_areWritesSo_206 {l : Launch} {X : SCR} {Q : PST} {bc bs : Nat} {res : Int32 × HP} {h : HP} (hQ : ∀ sz', Q (.inl (some (.int res.1))) res.2 sz') {v0 : Nat} {k18 : HP → Int32 → Int32 → Int32 → Int32 → Int32 → Option (Int32 × HP)} (hk18 : ∀ (h : HP) (v1 : Int32) (v2 : Int32) (v3 : Int32) (v4 : Int32) (v5 : Int32) (sz : Nat), k18 h v1 v2 v3 v4 v5 = some res → SP l X M_L_areWritesSo 18 [(0, .ref v0), (1, .int v1), (2, .int v2), (3, .int v3), (4, .int v4), (5, .int v5)] [] h sz bc bs Q) {k54 : HP → Int32 → Int32 → Int32 → Int32 → Int32 → Int32 → Int32 → Int32 → Int32 → Option (Int32 × HP)} (hk54 : ∀ (h : HP) (v1 : Int32) (v2 : Int32) (v3 : Int32) (v4 : Int32) (v5 : Int32) (v6 : Int32) (v7 : Int32) (v8 : Int32) (v9 : Int32) (sz : Nat), k54 h v1 v2 v3 v4 v5 v6 v7 v8 v9 = some res → SP l X M_L_areWritesSo 54 [(0, .ref v0), (1, .int v1), (2, .int v2), (3, .int v3), (4, .int v4), (5, .int v5), (6, .int v6), (7, .int v7), (8, .int v8), (9, .int v9)] [] h sz bc bs Q) {v1 : Int32} {v2 : Int32} {v3 : Int32} {v5 : Int32} {v6 : Int32} {v7 : Int32} {v9 : Int32} {v10 : Int32} {v12 : Int32} {s0 : Int32} {sz : Nat} (hf : b_L_areWritesSo_206 v0 k18 k54 h v1 v2 v3 v5 v6 v7 v9 v10 v12 s0 = some res) : SP l X M_L_areWritesSo 206 [(0, .ref v0), (1, .int v1), (2, .int v2), (3, .int v3), (5, .int v5), (6, .int v6), (7, .int v7), (9, .int v9), (10, .int v10), (12, .int v12)] [.int s0] h sz bc bs Q := by
  rw [b_L_areWritesSo_206] at hf
  refine sp_istore (pc := 206) (lv' := [(4, .int s0), (0, .ref v0), (1, .int v1), (2, .int v2), (3, .int v3), (5, .int v5), (6, .int v6), (7, .int v7), (9, .int v9), (10, .int v10), (12, .int v12)]) dL_areWritesSo_206 (by decide) rfl ?_
  refine sp_bipush (pc := 208) (v := 100) dL_areWritesSo_208 (by decide) ?_
  refine sp_iload (pc := 210) dL_areWritesSo_210 9 rfl ?_
  refine sp_imul (pc := 212) dL_areWritesSo_212 ?_
  refine sp_iload (pc := 213) dL_areWritesSo_213 10 rfl ?_
  refine sp_iadd (pc := 215) dL_areWritesSo_215 ?_
  refine sp_istore (pc := 216) (lv' := [(8, .int ((100 * v10) + v12)), (4, .int s0), (0, .ref v0), (1, .int v1), (2, .int v2), (3, .int v3), (5, .int v5), (6, .int v6), (7, .int v7), (9, .int v9), (10, .int v10), (12, .int v12)]) dL_areWritesSo_216 (by decide) rfl ?_
  refine sp_iinc (pc := 218) (v := v9 + 1) (lv' := [(9, .int (v9 + 1)), (8, .int ((100 * v10) + v12)), (4, .int s0), (0, .ref v0), (1, .int v1), (2, .int v2), (3, .int v3), (5, .int v5), (6, .int v6), (7, .int v7), (10, .int v10), (12, .int v12)]) dL_areWritesSo_218 9 rfl rfl (by decide) rfl ?_
  refine sp_goto (pc := 221) (tgt := 54) dL_areWritesSo_221 (by decide) ?_
  exact sp_sub [3, 4, 5, 6, 2, 7, 8, 9, 1, 0] rfl (hk54 _ _ _ _ _ _ _ _ _ _ _ hf)

theorem w_L_areWritesSo_180 {l : Launch} {X : SCR} {Q : PST} {bc bs : Nat} {res : Int32 × HP} {h : HP} (hQ : ∀ sz', Q (.inl (some (.int res.1))) res.2 sz') {v0 : Nat} {k18 : HP → Int32 → Int32 → Int32 → Int32 → Int32 → Option (Int32 × HP)} (hk18 : ∀ (h : HP) (v1 : Int32) (v2 : Int32) (v3 : Int32) (v4 : Int32) (v5 : Int32) (sz : Nat), k18 h v1 v2 v3 v4 v5 = some res → SP l X M_L_areWritesSo 18 [(0, .ref v0), (1, .int v1), (2, .int v2), (3, .int v3), (4, .int v4), (5, .int v5)] [] h sz bc bs Q) {k54 : HP → Int32 → Int32 → Int32 → Int32 → Int32 → Int32 → Int32 → Int32 → Int32 → Option (Int32 × HP)} (hk54 : ∀ (h : HP) (v1 : Int32) (v2 : Int32) (v3 : Int32) (v4 : Int32) (v5 : Int32) (v6 : Int32) (v7 : Int32) (v8 : Int32) (v9 : Int32) (sz : Nat), k54 h v1 v2 v3 v4 v5 v6 v7 v8 v9 = some res → SP l X M_L_areWritesSo 54 [(0, .ref v0), (1, .int v1), (2, .int v2), (3, .int v3), (4, .int v4), (5, .int v5), (6, .int v6), (7, .int v7), (8, .int v8), (9, .int v9)] [] h sz bc bs Q) {v1 : Int32} {v2 : Int32} {v3 : Int32} {v5 : Int32} {v6 : Int32} {v7 : Int32} {v9 : Int32} {v10 : Int32} {v12 : Int32} {sz : Nat} (hf : b_L_areWritesSo_180 v0 k18 k54 h v1 v2 v3 v5 v6 v7 v9 v10 v12 = some res) : SP l X M_L_areWritesSo 180 [(0, .ref v0), (1, .int v1), (2, .int v2), (3, .int v3), (5, .int v5), (6, .int v6), (7, .int v7), (9, .int v9), (10, .int v10), (12, .int v12)] [] h sz bc bs Q := by
  rw [b_L_areWritesSo_180] at hf
  refine sp_iload (pc := 180) dL_areWritesSo_180 7 rfl ?_
  refine sp_iload (pc := 182) dL_areWritesSo_182 5 rfl ?_
  refine sp_iconst (pc := 184) (v := 1) dL_areWritesSo_184 (by decide) ?_
  refine sp_isub (pc := 185) dL_areWritesSo_185 ?_
  refine sp_icmp_lt (pc := 186) (tgt := 201) dL_areWritesSo_186 (by decide) (fun c1 => ?_) (fun c1 => ?_)
  · rw [if_pos c1] at hf
    refine sp_iconst (pc := 201) (v := 1) dL_areWritesSo_201 (by decide) ?_
    refine sp_goto (pc := 202) (tgt := 206) dL_areWritesSo_202 (by decide) ?_
    exact (w_L_areWritesSo_206 hQ hk18 hk54 hf)
  · rw [if_neg c1] at hf
    refine sp_iload (pc := 189) dL_areWritesSo_189 8 rfl ?_
    refine sp_aload_n (pc := 191) dL_areWritesSo_191 0 rfl ?_
    refine sp_iload (pc := 192) dL_areWritesSo_192 4 rfl ?_
    refine sp_iconst (pc := 194) (v := 3) dL_areWritesSo_194 (by decide) ?_
    obtain ⟨y2, ey2, hf⟩ := ob hf
    obtain ⟨r3, er3, hf⟩ := ob hf
    obtain ⟨fsy2, hoy2⟩ := o_X7_run ey2
    refine sp_callVi (pc := 195) (z := M_X7_run) (As := [.int v5, .int 3]) (b := v0) (bc2 := bc) (bs2 := bs) (m_X7_run (Q := _) (fun sz => ⟨r3, outT_e er3, ?_⟩) (rt_no er3) ey2) rfl dL_areWritesSo_195 hoy2 rfl rfl ck_L_areWritesSo_49 (Nat.le_of_ble_eq_true rfl) rfl rfl rfl
    refine sp_icmp_ne (pc := 198) (tgt := 205) dL_areWritesSo_198 (by decide) (fun c4 => ?_) (fun c4 => ?_)
    · rw [if_neg c4] at hf
      refine sp_iconst (pc := 205) (v := 0) dL_areWritesSo_205 (by decide) ?_
      exact (w_L_areWritesSo_206 hQ hk18 hk54 hf)
    · rw [if_pos c4] at hf
      refine sp_iconst (pc := 201) (v := 1) dL_areWritesSo_201 (by decide) ?_
      refine sp_goto (pc := 202) (tgt := 206) dL_areWritesSo_202 (by decide) ?_
      exact (w_L_areWritesSo_206 hQ hk18 hk54 hf)

theorem w_L_areWritesSo_163 {l : Launch} {X : SCR} {Q : PST} {bc bs : Nat} {res : Int32 × HP} {h : HP} (hQ : ∀ sz', Q (.inl (some (.int res.1))) res.2 sz') {v0 : Nat} {k18 : HP → Int32 → Int32 → Int32 → Int32 → Int32 → Option (Int32 × HP)} (hk18 : ∀ (h : HP) (v1 : Int32) (v2 : Int32) (v3 : Int32) (v4 : Int32) (v5 : Int32) (sz : Nat), k18 h v1 v2 v3 v4 v5 = some res → SP l X M_L_areWritesSo 18 [(0, .ref v0), (1, .int v1), (2, .int v2), (3, .int v3), (4, .int v4), (5, .int v5)] [] h sz bc bs Q) {k54 : HP → Int32 → Int32 → Int32 → Int32 → Int32 → Int32 → Int32 → Int32 → Int32 → Option (Int32 × HP)} (hk54 : ∀ (h : HP) (v1 : Int32) (v2 : Int32) (v3 : Int32) (v4 : Int32) (v5 : Int32) (v6 : Int32) (v7 : Int32) (v8 : Int32) (v9 : Int32) (sz : Nat), k54 h v1 v2 v3 v4 v5 v6 v7 v8 v9 = some res → SP l X M_L_areWritesSo 54 [(0, .ref v0), (1, .int v1), (2, .int v2), (3, .int v3), (4, .int v4), (5, .int v5), (6, .int v6), (7, .int v7), (8, .int v8), (9, .int v9)] [] h sz bc bs Q) {v1 : Int32} {v2 : Int32} {v3 : Int32} {v5 : Int32} {v6 : Int32} {v7 : Int32} {v9 : Int32} {v10 : Int32} {v12 : Int32} {sz : Nat} (hf : b_L_areWritesSo_163 v0 k18 k54 h v1 v2 v3 v5 v6 v7 v9 v10 v12 = some res) : SP l X M_L_areWritesSo 163 [(0, .ref v0), (1, .int v1), (2, .int v2), (3, .int v3), (5, .int v5), (6, .int v6), (7, .int v7), (9, .int v9), (10, .int v10), (12, .int v12)] [] h sz bc bs Q := by
  rw [b_L_areWritesSo_163] at hf
  refine sp_iload (pc := 163) dL_areWritesSo_163 7 rfl ?_
  refine sp_if_gt (pc := 165) (tgt := 180) dL_areWritesSo_165 (by decide) (fun c1 => ?_) (fun c1 => ?_)
  · rw [if_pos c1] at hf
    exact (w_L_areWritesSo_180 hQ hk18 hk54 hf)
  · rw [if_neg c1] at hf
    refine sp_iload (pc := 168) dL_areWritesSo_168 8 rfl ?_
    refine sp_aload_n (pc := 170) dL_areWritesSo_170 0 rfl ?_
    refine sp_iload (pc := 171) dL_areWritesSo_171 4 rfl ?_
    refine sp_iconst (pc := 173) (v := 2) dL_areWritesSo_173 (by decide) ?_
    obtain ⟨y2, ey2, hf⟩ := ob hf
    obtain ⟨r3, er3, hf⟩ := ob hf
    obtain ⟨fsy2, hoy2⟩ := o_X7_run ey2
    refine sp_callVi (pc := 174) (z := M_X7_run) (As := [.int v5, .int 2]) (b := v0) (bc2 := bc) (bs2 := bs) (m_X7_run (Q := _) (fun sz => ⟨r3, outT_e er3, ?_⟩) (rt_no er3) ey2) rfl dL_areWritesSo_174 hoy2 rfl rfl ck_L_areWritesSo_49 (Nat.le_of_ble_eq_true rfl) rfl rfl rfl
    refine sp_icmp_ne (pc := 177) (tgt := 205) dL_areWritesSo_177 (by decide) (fun c4 => ?_) (fun c4 => ?_)
    · rw [if_neg c4] at hf
      refine sp_iconst (pc := 205) (v := 0) dL_areWritesSo_205 (by decide) ?_
      exact (w_L_areWritesSo_206 hQ hk18 hk54 hf)
    · rw [if_pos c4] at hf
      exact (w_L_areWritesSo_180 hQ hk18 hk54 hf)

theorem w_L_areWritesSo_117 {l : Launch} {X : SCR} {Q : PST} {bc bs : Nat} {res : Int32 × HP} {h : HP} (hQ : ∀ sz', Q (.inl (some (.int res.1))) res.2 sz') {v0 : Nat} {k18 : HP → Int32 → Int32 → Int32 → Int32 → Int32 → Option (Int32 × HP)} (hk18 : ∀ (h : HP) (v1 : Int32) (v2 : Int32) (v3 : Int32) (v4 : Int32) (v5 : Int32) (sz : Nat), k18 h v1 v2 v3 v4 v5 = some res → SP l X M_L_areWritesSo 18 [(0, .ref v0), (1, .int v1), (2, .int v2), (3, .int v3), (4, .int v4), (5, .int v5)] [] h sz bc bs Q) {k54 : HP → Int32 → Int32 → Int32 → Int32 → Int32 → Int32 → Int32 → Int32 → Int32 → Option (Int32 × HP)} (hk54 : ∀ (h : HP) (v1 : Int32) (v2 : Int32) (v3 : Int32) (v4 : Int32) (v5 : Int32) (v6 : Int32) (v7 : Int32) (v8 : Int32) (v9 : Int32) (sz : Nat), k54 h v1 v2 v3 v4 v5 v6 v7 v8 v9 = some res → SP l X M_L_areWritesSo 54 [(0, .ref v0), (1, .int v1), (2, .int v2), (3, .int v3), (4, .int v4), (5, .int v5), (6, .int v6), (7, .int v7), (8, .int v8), (9, .int v9)] [] h sz bc bs Q) {v1 : Int32} {v2 : Int32} {v3 : Int32} {v4 : Int32} {v5 : Int32} {v6 : Int32} {v8 : Int32} {v9 : Int32} {v10 : Int32} {v11 : Int32} {v12 : Int32} {v13 : Int32} {s0 : Int32} {s1 : Int32} {sz : Nat} (hf : b_L_areWritesSo_117 v0 k18 k54 h v1 v2 v3 v4 v5 v6 v8 v9 v10 v11 v12 v13 s0 s1 = some res) : SP l X M_L_areWritesSo 117 [(0, .ref v0), (1, .int v1), (2, .int v2), (3, .int v3), (4, .int v4), (5, .int v5), (6, .int v6), (8, .int v8), (9, .int v9), (10, .int v10), (11, .int v11), (12, .int v12), (13, .int v13)] [.int s1, .int s0] h sz bc bs Q := by
  rw [b_L_areWritesSo_117] at hf
  refine sp_iadd (pc := 117) dL_areWritesSo_117 ?_
  refine sp_istore (pc := 118) (lv' := [(7, .int (s0 + s1)), (0, .ref v0), (1, .int v1), (2, .int v2), (3, .int v3), (4, .int v4), (5, .int v5), (6, .int v6), (8, .int v8), (9, .int v9), (10, .int v10), (11, .int v11), (12, .int v12), (13, .int v13)]) dL_areWritesSo_118 (by decide) rfl ?_
  refine sp_iload (pc := 120) dL_areWritesSo_120 5 rfl ?_
  refine sp_if_eq (pc := 122) (tgt := 205) dL_areWritesSo_122 (by decide) (fun c1 => ?_) (fun c1 => ?_)
  · rw [if_pos c1] at hf
    refine sp_iconst (pc := 205) (v := 0) dL_areWritesSo_205 (by decide) ?_
    exact sp_sub [1, 2, 3, 4, 6, 7, 0, 9, 10, 12] rfl (w_L_areWritesSo_206 hQ hk18 hk54 hf)
  · rw [if_neg c1] at hf
    refine sp_bipush (pc := 125) (v := 100) dL_areWritesSo_125 (by decide) ?_
    refine sp_iload (pc := 127) dL_areWritesSo_127 10 rfl ?_
    refine sp_imul (pc := 129) dL_areWritesSo_129 ?_
    refine sp_iload (pc := 130) dL_areWritesSo_130 11 rfl ?_
    refine sp_iadd (pc := 132) dL_areWritesSo_132 ?_
    refine sp_iload (pc := 133) dL_areWritesSo_133 8 rfl ?_
    refine sp_icmp_le (pc := 135) (tgt := 205) dL_areWritesSo_135 (by decide) (fun c2 => ?_) (fun c2 => ?_)
    · rw [if_pos c2] at hf
      refine sp_iconst (pc := 205) (v := 0) dL_areWritesSo_205 (by decide) ?_
      exact sp_sub [1, 2, 3, 4, 6, 7, 0, 9, 10, 12] rfl (w_L_areWritesSo_206 hQ hk18 hk54 hf)
    · rw [if_neg c2] at hf
      refine sp_iload (pc := 138) dL_areWritesSo_138 10 rfl ?_
      refine sp_iload_n (pc := 140) dL_areWritesSo_140 4 rfl ?_
      refine sp_icmp_ge (pc := 141) (tgt := 205) dL_areWritesSo_141 (by decide) (fun c3 => ?_) (fun c3 => ?_)
      · rw [if_pos c3] at hf
        refine sp_iconst (pc := 205) (v := 0) dL_areWritesSo_205 (by decide) ?_
        exact sp_sub [1, 2, 3, 4, 6, 7, 0, 9, 10, 12] rfl (w_L_areWritesSo_206 hQ hk18 hk54 hf)
      · rw [if_neg c3] at hf
        refine sp_iload (pc := 144) dL_areWritesSo_144 11 rfl ?_
        refine sp_iload (pc := 146) dL_areWritesSo_146 12 rfl ?_
        refine sp_icmp_gt (pc := 148) (tgt := 205) dL_areWritesSo_148 (by decide) (fun c4 => ?_) (fun c4 => ?_)
        · rw [if_pos c4] at hf
          refine sp_iconst (pc := 205) (v := 0) dL_areWritesSo_205 (by decide) ?_
          exact sp_sub [1, 2, 3, 4, 6, 7, 0, 9, 10, 12] rfl (w_L_areWritesSo_206 hQ hk18 hk54 hf)
        · rw [if_neg c4] at hf
          refine sp_iload (pc := 151) dL_areWritesSo_151 13 rfl ?_
          refine sp_if_eq (pc := 153) (tgt := 163) dL_areWritesSo_153 (by decide) (fun c5 => ?_) (fun c5 => ?_)
          · rw [if_pos c5] at hf
            exact sp_sub [1, 2, 3, 4, 6, 7, 0, 9, 10, 12] rfl (w_L_areWritesSo_163 hQ hk18 hk54 hf)
          · rw [if_neg c5] at hf
            refine sp_iload (pc := 156) dL_areWritesSo_156 11 rfl ?_
            refine sp_iload (pc := 158) dL_areWritesSo_158 12 rfl ?_
            refine sp_icmp_ne (pc := 160) (tgt := 205) dL_areWritesSo_160 (by decide) (fun c6 => ?_) (fun c6 => ?_)
            · rw [if_neg c6] at hf
              refine sp_iconst (pc := 205) (v := 0) dL_areWritesSo_205 (by decide) ?_
              exact sp_sub [1, 2, 3, 4, 6, 7, 0, 9, 10, 12] rfl (w_L_areWritesSo_206 hQ hk18 hk54 hf)
            · rw [if_pos c6] at hf
              exact sp_sub [1, 2, 3, 4, 6, 7, 0, 9, 10, 12] rfl (w_L_areWritesSo_163 hQ hk18 hk54 hf)

theorem wc_L_areWritesSo_54 {l : Launch} {X : SCR} {Q : PST} {bc bs : Nat} {res : Int32 × HP} (hQ : ∀ sz', Q (.inl (some (.int res.1))) res.2 sz') {v0 : Nat} {k18 : HP → Int32 → Int32 → Int32 → Int32 → Int32 → Option (Int32 × HP)} (hk18 : ∀ (h : HP) (v1 : Int32) (v2 : Int32) (v3 : Int32) (v4 : Int32) (v5 : Int32) (sz : Nat), k18 h v1 v2 v3 v4 v5 = some res → SP l X M_L_areWritesSo 18 [(0, .ref v0), (1, .int v1), (2, .int v2), (3, .int v3), (4, .int v4), (5, .int v5)] [] h sz bc bs Q) {k54 : HP → Int32 → Int32 → Int32 → Int32 → Int32 → Int32 → Int32 → Int32 → Int32 → Option (Int32 × HP)} (hk54 : ∀ (h : HP) (v1 : Int32) (v2 : Int32) (v3 : Int32) (v4 : Int32) (v5 : Int32) (v6 : Int32) (v7 : Int32) (v8 : Int32) (v9 : Int32) (sz : Nat), k54 h v1 v2 v3 v4 v5 v6 v7 v8 v9 = some res → SP l X M_L_areWritesSo 54 [(0, .ref v0), (1, .int v1), (2, .int v2), (3, .int v3), (4, .int v4), (5, .int v5), (6, .int v6), (7, .int v7), (8, .int v8), (9, .int v9)] [] h sz bc bs Q) {h : HP} {v1 : Int32} {v2 : Int32} {v3 : Int32} {v4 : Int32} {v5 : Int32} {v6 : Int32} {v7 : Int32} {v8 : Int32} {v9 : Int32} {sz : Nat} (hf : c_L_areWritesSo_54 v0 k18 k54 h v1 v2 v3 v4 v5 v6 v7 v8 v9 = some res) : SP l X M_L_areWritesSo 54 [(0, .ref v0), (1, .int v1), (2, .int v2), (3, .int v3), (4, .int v4), (5, .int v5), (6, .int v6), (7, .int v7), (8, .int v8), (9, .int v9)] [] h sz bc bs Q := by
  rw [c_L_areWritesSo_54] at hf
  refine sp_iload (pc := 54) dL_areWritesSo_54 9 rfl ?_
  refine sp_iload (pc := 56) dL_areWritesSo_56 6 rfl ?_
  refine sp_icmp_ge (pc := 58) (tgt := 224) dL_areWritesSo_58 (by decide) (fun c1 => ?_) (fun c1 => ?_)
  · rw [if_pos c1] at hf
    refine sp_iload_n (pc := 224) dL_areWritesSo_224 1 rfl ?_
    refine sp_iload (pc := 225) dL_areWritesSo_225 6 rfl ?_
    refine sp_iadd (pc := 227) dL_areWritesSo_227 ?_
    refine sp_istore_n (pc := 228) (lv' := [(1, .int (v1 + v6)), (0, .ref v0), (2, .int v2), (3, .int v3), (4, .int v4), (5, .int v5), (6, .int v6), (7, .int v7), (8, .int v8), (9, .int v9)]) dL_areWritesSo_228 (by decide) rfl ?_
    refine sp_iload_n (pc := 229) dL_areWritesSo_229 2 rfl ?_
    refine sp_iload (pc := 230) dL_areWritesSo_230 7 rfl ?_
    refine sp_iadd (pc := 232) dL_areWritesSo_232 ?_
    refine sp_istore_n (pc := 233) (lv' := [(2, .int (v2 + v7)), (1, .int (v1 + v6)), (0, .ref v0), (3, .int v3), (4, .int v4), (5, .int v5), (6, .int v6), (7, .int v7), (8, .int v8), (9, .int v9)]) dL_areWritesSo_233 (by decide) rfl ?_
    refine sp_iload (pc := 234) dL_areWritesSo_234 4 rfl ?_
    refine sp_if_eq (pc := 236) (tgt := 289) dL_areWritesSo_236 (by decide) (fun c2 => ?_) (fun c2 => ?_)
    · rw [if_pos c2] at hf
      refine sp_iconst (pc := 289) (v := 0) dL_areWritesSo_289 (by decide) ?_
      exact sp_sub [2, 1, 0, 3, 5, 6] rfl (w_L_areWritesSo_290 hQ hk18 hf)
    · rw [if_neg c2] at hf
      refine sp_iload (pc := 239) dL_areWritesSo_239 7 rfl ?_
      refine sp_aload_n (pc := 241) dL_areWritesSo_241 2 rfl ?_
      refine sp_iload (pc := 242) dL_areWritesSo_242 5 rfl ?_
      refine sp_iconst (pc := 244) (v := 0) dL_areWritesSo_244 (by decide) ?_
      obtain ⟨y3, ey3, hf⟩ := ob hf
      obtain ⟨r4, er4, hf⟩ := ob hf
      obtain ⟨fsy3, hoy3⟩ := o_X7_run ey3
      refine sp_callVi (pc := 245) (z := M_X7_run) (As := [.int v5, .int 0]) (b := v0) (bc2 := bc) (bs2 := bs) (m_X7_run (Q := _) (fun sz => ⟨r4, outT_e er4, ?_⟩) (rt_no er4) ey3) rfl dL_areWritesSo_245 hoy3 rfl rfl ck_L_areWritesSo_49 (Nat.le_of_ble_eq_true rfl) rfl rfl rfl
      refine sp_icmp_ne (pc := 248) (tgt := 289) dL_areWritesSo_248 (by decide) (fun c5 => ?_) (fun c5 => ?_)
      · rw [if_neg c5] at hf
        refine sp_iconst (pc := 289) (v := 0) dL_areWritesSo_289 (by decide) ?_
        exact sp_sub [2, 1, 0, 3, 5, 6] rfl (w_L_areWritesSo_290 hQ hk18 hf)
      · rw [if_pos c5] at hf
        refine sp_aload_n (pc := 251) dL_areWritesSo_251 2 rfl ?_
        refine sp_iload (pc := 252) dL_areWritesSo_252 5 rfl ?_
        refine sp_iload (pc := 254) dL_areWritesSo_254 6 rfl ?_
        refine sp_iconst (pc := 256) (v := 0) dL_areWritesSo_256 (by decide) ?_
        obtain ⟨y6, ey6, hf⟩ := ob hf
        obtain ⟨r7, er7, hf⟩ := ob hf
        obtain ⟨fsy6, hoy6⟩ := o_X7_write ey6
        refine sp_callVi (pc := 257) (z := M_X7_write) (As := [.int v5, .int v6, .int 0]) (b := v0) (bc2 := bc) (bs2 := bs) (m_X7_write (Q := _) (fun sz => ⟨r7, outT_e er7, ?_⟩) (rt_no er7) ey6) rfl dL_areWritesSo_257 hoy6 rfl rfl ck_L_areWritesSo_52 (Nat.le_of_ble_eq_true rfl) rfl rfl rfl
        refine sp_iconst (pc := 260) (v := (-1)) dL_areWritesSo_260 (by decide) ?_
        refine sp_icmp_ne (pc := 261) (tgt := 289) dL_areWritesSo_261 (by decide) (fun c8 => ?_) (fun c8 => ?_)
        · rw [if_neg c8] at hf
          refine sp_iconst (pc := 289) (v := 0) dL_areWritesSo_289 (by decide) ?_
          exact sp_sub [2, 1, 0, 3, 5, 6] rfl (w_L_areWritesSo_290 hQ hk18 hf)
        · rw [if_pos c8] at hf
          refine sp_iload (pc := 264) dL_areWritesSo_264 6 rfl ?_
          refine sp_if_gt (pc := 266) (tgt := 285) dL_areWritesSo_266 (by decide) (fun c9 => ?_) (fun c9 => ?_)
          · rw [if_pos c9] at hf
            refine sp_iconst (pc := 285) (v := 1) dL_areWritesSo_285 (by decide) ?_
            refine sp_goto (pc := 286) (tgt := 290) dL_areWritesSo_286 (by decide) ?_
            exact sp_sub [2, 1, 0, 3, 5, 6] rfl (w_L_areWritesSo_290 hQ hk18 hf)
          · rw [if_neg c9] at hf
            refine sp_iload (pc := 269) dL_areWritesSo_269 5 rfl ?_
            refine sp_if_ge (pc := 271) (tgt := 289) dL_areWritesSo_271 (by decide) (fun c10 => ?_) (fun c10 => ?_)
            · rw [if_pos c10] at hf
              refine sp_iconst (pc := 289) (v := 0) dL_areWritesSo_289 (by decide) ?_
              exact sp_sub [2, 1, 0, 3, 5, 6] rfl (w_L_areWritesSo_290 hQ hk18 hf)
            · rw [if_neg c10] at hf
              refine sp_aload_n (pc := 274) dL_areWritesSo_274 2 rfl ?_
              refine sp_iload (pc := 275) dL_areWritesSo_275 5 rfl ?_
              refine sp_iconst (pc := 277) (v := 2) dL_areWritesSo_277 (by decide) ?_
              obtain ⟨y11, ey11, hf⟩ := ob hf
              obtain ⟨r12, er12, hf⟩ := ob hf
              obtain ⟨fsy11, hoy11⟩ := o_X7_run ey11
              refine sp_callVi (pc := 278) (z := M_X7_run) (As := [.int v5, .int 2]) (b := v0) (bc2 := bc) (bs2 := bs) (m_X7_run (Q := _) (fun sz => ⟨r12, outT_e er12, ?_⟩) (rt_no er12) ey11) rfl dL_areWritesSo_278 hoy11 rfl rfl ck_L_areWritesSo_49 (Nat.le_of_ble_eq_true rfl) rfl rfl rfl
              refine sp_iconst (pc := 281) (v := (-1)) dL_areWritesSo_281 (by decide) ?_
              refine sp_icmp_ne (pc := 282) (tgt := 289) dL_areWritesSo_282 (by decide) (fun c13 => ?_) (fun c13 => ?_)
              · rw [if_neg c13] at hf
                refine sp_iconst (pc := 289) (v := 0) dL_areWritesSo_289 (by decide) ?_
                exact sp_sub [2, 1, 0, 3, 5, 6] rfl (w_L_areWritesSo_290 hQ hk18 hf)
              · rw [if_pos c13] at hf
                refine sp_iconst (pc := 285) (v := 1) dL_areWritesSo_285 (by decide) ?_
                refine sp_goto (pc := 286) (tgt := 290) dL_areWritesSo_286 (by decide) ?_
                exact sp_sub [2, 1, 0, 3, 5, 6] rfl (w_L_areWritesSo_290 hQ hk18 hf)
  · rw [if_neg c1] at hf
    refine sp_aload_n (pc := 61) dL_areWritesSo_61 0 rfl ?_
    refine sp_iload (pc := 62) dL_areWritesSo_62 5 rfl ?_
    refine sp_iload (pc := 64) dL_areWritesSo_64 9 rfl ?_
    refine sp_iconst (pc := 66) (v := 0) dL_areWritesSo_66 (by decide) ?_
    obtain ⟨y14, ey14, hf⟩ := ob hf
    obtain ⟨r15, er15, hf⟩ := ob hf
    obtain ⟨fsy14, hoy14⟩ := o_X7_write ey14
    refine sp_callVi (pc := 67) (z := M_X7_write) (As := [.int v5, .int v9, .int 0]) (b := v0) (bc2 := bc) (bs2 := bs) (m_X7_write (Q := _) (fun sz => ⟨r15, outT_e er15, ?_⟩) (rt_no er15) ey14) rfl dL_areWritesSo_67 hoy14 rfl rfl ck_L_areWritesSo_52 (Nat.le_of_ble_eq_true rfl) rfl rfl rfl
    refine sp_istore (pc := 70) (lv' := [(10, .int r15), (0, .ref v0), (1, .int v1), (2, .int v2), (3, .int v3), (4, .int v4), (5, .int v5), (6, .int v6), (7, .int v7), (8, .int v8), (9, .int v9)]) dL_areWritesSo_70 (by decide) rfl ?_
    refine sp_aload_n (pc := 72) dL_areWritesSo_72 1 rfl ?_
    refine sp_iload (pc := 73) dL_areWritesSo_73 6 rfl ?_
    refine sp_iload (pc := 75) dL_areWritesSo_75 10 rfl ?_
    refine sp_iconst (pc := 77) (v := 1) dL_areWritesSo_77 (by decide) ?_
    obtain ⟨y16, ey16, hf⟩ := ob hf
    obtain ⟨r17, er17, hf⟩ := ob hf
    obtain ⟨fsy16, hoy16⟩ := o_X7_write ey16
    refine sp_callVi (pc := 78) (z := M_X7_write) (As := [.int v5, .int v9, .int 1]) (b := v0) (bc2 := bc) (bs2 := bs) (m_X7_write (Q := _) (fun sz => ⟨r17, outT_e er17, ?_⟩) (rt_no er17) ey16) rfl dL_areWritesSo_78 hoy16 rfl rfl ck_L_areWritesSo_52 (Nat.le_of_ble_eq_true rfl) rfl rfl rfl
    refine sp_istore (pc := 81) (lv' := [(11, .int r17), (10, .int r15), (0, .ref v0), (1, .int v1), (2, .int v2), (3, .int v3), (4, .int v4), (5, .int v5), (6, .int v6), (7, .int v7), (8, .int v8), (9, .int v9)]) dL_areWritesSo_81 (by decide) rfl ?_
    refine sp_aload_n (pc := 83) dL_areWritesSo_83 2 rfl ?_
    refine sp_iload (pc := 84) dL_areWritesSo_84 7 rfl ?_
    refine sp_iload (pc := 86) dL_areWritesSo_86 11 rfl ?_
    refine sp_iconst (pc := 88) (v := 2) dL_areWritesSo_88 (by decide) ?_
    obtain ⟨y18, ey18, hf⟩ := ob hf
    obtain ⟨r19, er19, hf⟩ := ob hf
    obtain ⟨fsy18, hoy18⟩ := o_X7_write ey18
    refine sp_callVi (pc := 89) (z := M_X7_write) (As := [.int v5, .int v9, .int 2]) (b := v0) (bc2 := bc) (bs2 := bs) (m_X7_write (Q := _) (fun sz => ⟨r19, outT_e er19, ?_⟩) (rt_no er19) ey18) rfl dL_areWritesSo_89 hoy18 rfl rfl ck_L_areWritesSo_52 (Nat.le_of_ble_eq_true rfl) rfl rfl rfl
    refine sp_istore (pc := 92) (lv' := [(12, .int r19), (11, .int r17), (10, .int r15), (0, .ref v0), (1, .int v1), (2, .int v2), (3, .int v3), (4, .int v4), (5, .int v5), (6, .int v6), (7, .int v7), (8, .int v8), (9, .int v9)]) dL_areWritesSo_92 (by decide) rfl ?_
    refine sp_aload_n (pc := 94) dL_areWritesSo_94 3 rfl ?_
    refine sp_iload (pc := 95) dL_areWritesSo_95 8 rfl ?_
    refine sp_iload (pc := 97) dL_areWritesSo_97 12 rfl ?_
    refine sp_iconst (pc := 99) (v := 3) dL_areWritesSo_99 (by decide) ?_
    obtain ⟨y20, ey20, hf⟩ := ob hf
    obtain ⟨r21, er21, hf⟩ := ob hf
    obtain ⟨fsy20, hoy20⟩ := o_X7_write ey20
    refine sp_callVi (pc := 100) (z := M_X7_write) (As := [.int v5, .int v9, .int 3]) (b := v0) (bc2 := bc) (bs2 := bs) (m_X7_write (Q := _) (fun sz => ⟨r21, outT_e er21, ?_⟩) (rt_no er21) ey20) rfl dL_areWritesSo_100 hoy20 rfl rfl ck_L_areWritesSo_52 (Nat.le_of_ble_eq_true rfl) rfl rfl rfl
    refine sp_istore (pc := 103) (lv' := [(13, .int r21), (12, .int r19), (11, .int r17), (10, .int r15), (0, .ref v0), (1, .int v1), (2, .int v2), (3, .int v3), (4, .int v4), (5, .int v5), (6, .int v6), (7, .int v7), (8, .int v8), (9, .int v9)]) dL_areWritesSo_103 (by decide) rfl ?_
    refine sp_iload (pc := 105) dL_areWritesSo_105 11 rfl ?_
    refine sp_iload (pc := 107) dL_areWritesSo_107 0 rfl ?_
    refine sp_if_le (pc := 109) (tgt := 116) dL_areWritesSo_109 (by decide) (fun c22 => ?_) (fun c22 => ?_)
    · rw [if_pos c22] at hf
      refine sp_iconst (pc := 116) (v := 0) dL_areWritesSo_116 (by decide) ?_
      exact sp_sub [4, 5, 6, 7, 8, 9, 10, 12, 13, 3, 2, 1, 0] rfl (w_L_areWritesSo_117 hQ hk18 hk54 hf)
    · rw [if_neg c22] at hf
      refine sp_iconst (pc := 112) (v := 1) dL_areWritesSo_112 (by decide) ?_
      refine sp_goto (pc := 113) (tgt := 117) dL_areWritesSo_113 (by decide) ?_
      exact sp_sub [4, 5, 6, 7, 8, 9, 10, 12, 13, 3, 2, 1, 0] rfl (w_L_areWritesSo_117 hQ hk18 hk54 hf)

theorem w_L_areWritesSo_54 {l : Launch} {X : SCR} {Q : PST} {bc bs : Nat} {res : Int32 × HP} (hQ : ∀ sz', Q (.inl (some (.int res.1))) res.2 sz') {v0 : Nat} {k18 : HP → Int32 → Int32 → Int32 → Int32 → Int32 → Option (Int32 × HP)} (hk18 : ∀ (h : HP) (v1 : Int32) (v2 : Int32) (v3 : Int32) (v4 : Int32) (v5 : Int32) (sz : Nat), k18 h v1 v2 v3 v4 v5 = some res → SP l X M_L_areWritesSo 18 [(0, .ref v0), (1, .int v1), (2, .int v2), (3, .int v3), (4, .int v4), (5, .int v5)] [] h sz bc bs Q) : ∀ (n : Nat) {h : HP} {v1 : Int32} {v2 : Int32} {v3 : Int32} {v4 : Int32} {v5 : Int32} {v6 : Int32} {v7 : Int32} {v8 : Int32} {v9 : Int32} {sz : Nat}, b_L_areWritesSo_54 v0 k18 n h v1 v2 v3 v4 v5 v6 v7 v8 v9 = some res → SP l X M_L_areWritesSo 54 [(0, .ref v0), (1, .int v1), (2, .int v2), (3, .int v3), (4, .int v4), (5, .int v5), (6, .int v6), (7, .int v7), (8, .int v8), (9, .int v9)] [] h sz bc bs Q := by
  intro n
  induction n with
  | zero =>
    intro h v1 v2 v3 v4 v5 v6 v7 v8 v9 sz hf
    rw [b_L_areWritesSo_54] at hf
    cases hf
  | succ n ih =>
    intro h v1 v2 v3 v4 v5 v6 v7 v8 v9 sz hf
    rw [b_L_areWritesSo_54] at hf
    exact wc_L_areWritesSo_54 hQ hk18 (fun h v1 v2 v3 v4 v5 v6 v7 v8 v9 sz hf => ih hf) hf

theorem wc_L_areWritesSo_18 {l : Launch} {X : SCR} {Q : PST} {bc bs : Nat} {res : Int32 × HP} (hQ : ∀ sz', Q (.inl (some (.int res.1))) res.2 sz') {v0 : Nat} {k18 : HP → Int32 → Int32 → Int32 → Int32 → Int32 → Option (Int32 × HP)} (hk18 : ∀ (h : HP) (v1 : Int32) (v2 : Int32) (v3 : Int32) (v4 : Int32) (v5 : Int32) (sz : Nat), k18 h v1 v2 v3 v4 v5 = some res → SP l X M_L_areWritesSo 18 [(0, .ref v0), (1, .int v1), (2, .int v2), (3, .int v3), (4, .int v4), (5, .int v5)] [] h sz bc bs Q) {h : HP} {v1 : Int32} {v2 : Int32} {v3 : Int32} {v4 : Int32} {v5 : Int32} {sz : Nat} (hf : c_L_areWritesSo_18 v0 k18 h v1 v2 v3 v4 v5 = some res) : SP l X M_L_areWritesSo 18 [(0, .ref v0), (1, .int v1), (2, .int v2), (3, .int v3), (4, .int v4), (5, .int v5)] [] h sz bc bs Q := by
  rw [c_L_areWritesSo_18] at hf
  refine sp_iload (pc := 18) dL_areWritesSo_18 5 rfl ?_
  refine sp_aload_n (pc := 20) dL_areWritesSo_20 0 rfl ?_
  refine sp_iconst (pc := 21) (v := 2) dL_areWritesSo_21 (by decide) ?_
  obtain ⟨y1, ey1, hf⟩ := ob hf
  obtain ⟨r2, er2, hf⟩ := ob hf
  obtain ⟨fsy1, hoy1⟩ := o_X7_about ey1
  refine sp_callVi (pc := 22) (z := M_X7_about) (As := [.int 2]) (b := v0) (bc2 := bc) (bs2 := bs) (m_X7_about (Q := _) (fun sz => ⟨r2, outT_e er2, ?_⟩) (rt_no er2) ey1) rfl dL_areWritesSo_22 hoy1 rfl rfl ck_L_areWritesSo_8 (Nat.le_of_ble_eq_true rfl) rfl rfl rfl
  refine sp_icmp_ge (pc := 25) (tgt := 315) dL_areWritesSo_25 (by decide) (fun c3 => ?_) (fun c3 => ?_)
  · rw [if_pos c3] at hf
    refine sp_iload (pc := 315) dL_areWritesSo_315 4 rfl ?_
    refine sp_if_eq (pc := 317) (tgt := 378) dL_areWritesSo_317 (by decide) (fun c4 => ?_) (fun c4 => ?_)
    · rw [if_pos c4] at hf
      refine sp_iconst (pc := 378) (v := 0) dL_areWritesSo_378 (by decide) ?_
      obtain rfl := Option.some.inj hf
      exact sp_ireturn (pc := 379) dL_areWritesSo_379 rfl rfl (hQ _)
    · rw [if_neg c4] at hf
      refine sp_iload_n (pc := 320) dL_areWritesSo_320 1 rfl ?_
      refine sp_aload_n (pc := 321) dL_areWritesSo_321 0 rfl ?_
      refine sp_iconst (pc := 322) (v := 4) dL_areWritesSo_322 (by decide) ?_
      obtain ⟨y5, ey5, hf⟩ := ob hf
      obtain ⟨r6, er6, hf⟩ := ob hf
      obtain ⟨fsy5, hoy5⟩ := o_X7_about ey5
      refine sp_callVi (pc := 323) (z := M_X7_about) (As := [.int 4]) (b := v0) (bc2 := bc) (bs2 := bs) (m_X7_about (Q := _) (fun sz => ⟨r6, outT_e er6, ?_⟩) (rt_no er6) ey5) rfl dL_areWritesSo_323 hoy5 rfl rfl ck_L_areWritesSo_8 (Nat.le_of_ble_eq_true rfl) rfl rfl rfl
      refine sp_icmp_ne (pc := 326) (tgt := 378) dL_areWritesSo_326 (by decide) (fun c7 => ?_) (fun c7 => ?_)
      · rw [if_neg c7] at hf
        refine sp_iconst (pc := 378) (v := 0) dL_areWritesSo_378 (by decide) ?_
        obtain rfl := Option.some.inj hf
        exact sp_ireturn (pc := 379) dL_areWritesSo_379 rfl rfl (hQ _)
      · rw [if_pos c7] at hf
        refine sp_iload_n (pc := 329) dL_areWritesSo_329 2 rfl ?_
        refine sp_aload_n (pc := 330) dL_areWritesSo_330 0 rfl ?_
        refine sp_iconst (pc := 331) (v := 5) dL_areWritesSo_331 (by decide) ?_
        obtain ⟨y8, ey8, hf⟩ := ob hf
        obtain ⟨r9, er9, hf⟩ := ob hf
        obtain ⟨fsy8, hoy8⟩ := o_X7_about ey8
        refine sp_callVi (pc := 332) (z := M_X7_about) (As := [.int 5]) (b := v0) (bc2 := bc) (bs2 := bs) (m_X7_about (Q := _) (fun sz => ⟨r9, outT_e er9, ?_⟩) (rt_no er9) ey8) rfl dL_areWritesSo_332 hoy8 rfl rfl ck_L_areWritesSo_8 (Nat.le_of_ble_eq_true rfl) rfl rfl rfl
        refine sp_icmp_ne (pc := 335) (tgt := 378) dL_areWritesSo_335 (by decide) (fun c10 => ?_) (fun c10 => ?_)
        · rw [if_neg c10] at hf
          refine sp_iconst (pc := 378) (v := 0) dL_areWritesSo_378 (by decide) ?_
          obtain rfl := Option.some.inj hf
          exact sp_ireturn (pc := 379) dL_areWritesSo_379 rfl rfl (hQ _)
        · rw [if_pos c10] at hf
          refine sp_iload_n (pc := 338) dL_areWritesSo_338 1 rfl ?_
          refine sp_bipush (pc := 339) (v := 48) dL_areWritesSo_339 (by decide) ?_
          refine sp_icmp_gt (pc := 341) (tgt := 378) dL_areWritesSo_341 (by decide) (fun c11 => ?_) (fun c11 => ?_)
          · rw [if_pos c11] at hf
            refine sp_iconst (pc := 378) (v := 0) dL_areWritesSo_378 (by decide) ?_
            obtain rfl := Option.some.inj hf
            exact sp_ireturn (pc := 379) dL_areWritesSo_379 rfl rfl (hQ _)
          · rw [if_neg c11] at hf
            refine sp_aload_n (pc := 344) dL_areWritesSo_344 0 rfl ?_
            refine sp_iconst (pc := 345) (v := 1) dL_areWritesSo_345 (by decide) ?_
            obtain ⟨y12, ey12, hf⟩ := ob hf
            obtain ⟨r13, er13, hf⟩ := ob hf
            obtain ⟨fsy12, hoy12⟩ := o_X7_about ey12
            refine sp_callVi (pc := 346) (z := M_X7_about) (As := [.int 1]) (b := v0) (bc2 := bc) (bs2 := bs) (m_X7_about (Q := _) (fun sz => ⟨r13, outT_e er13, ?_⟩) (rt_no er13) ey12) rfl dL_areWritesSo_346 hoy12 rfl rfl ck_L_areWritesSo_8 (Nat.le_of_ble_eq_true rfl) rfl rfl rfl
            refine sp_aload_n (pc := 349) dL_areWritesSo_349 0 rfl ?_
            refine sp_iconst (pc := 350) (v := (-1)) dL_areWritesSo_350 (by decide) ?_
            refine sp_iconst (pc := 351) (v := 0) dL_areWritesSo_351 (by decide) ?_
            obtain ⟨y14, ey14, hf⟩ := ob hf
            obtain ⟨r15, er15, hf⟩ := ob hf
            obtain ⟨fsy14, hoy14⟩ := o_X7_run ey14
            refine sp_callVi (pc := 352) (z := M_X7_run) (As := [.int (-1), .int 0]) (b := v0) (bc2 := bc) (bs2 := bs) (m_X7_run (Q := _) (fun sz => ⟨r15, outT_e er15, ?_⟩) (rt_no er15) ey14) rfl dL_areWritesSo_352 hoy14 rfl rfl ck_L_areWritesSo_49 (Nat.le_of_ble_eq_true rfl) rfl rfl rfl
            refine sp_aload_n (pc := 355) dL_areWritesSo_355 0 rfl ?_
            refine sp_iconst (pc := 356) (v := (-1)) dL_areWritesSo_356 (by decide) ?_
            refine sp_iconst (pc := 357) (v := 1) dL_areWritesSo_357 (by decide) ?_
            obtain ⟨y16, ey16, hf⟩ := ob hf
            obtain ⟨r17, er17, hf⟩ := ob hf
            obtain ⟨fsy16, hoy16⟩ := o_X7_run ey16
            refine sp_callVi (pc := 358) (z := M_X7_run) (As := [.int (-1), .int 1]) (b := v0) (bc2 := bc) (bs2 := bs) (m_X7_run (Q := _) (fun sz => ⟨r17, outT_e er17, ?_⟩) (rt_no er17) ey16) rfl dL_areWritesSo_358 hoy16 rfl rfl ck_L_areWritesSo_49 (Nat.le_of_ble_eq_true rfl) rfl rfl rfl
            refine sp_iadd (pc := 361) dL_areWritesSo_361 ?_
            refine sp_icmp_ne (pc := 362) (tgt := 378) dL_areWritesSo_362 (by decide) (fun c18 => ?_) (fun c18 => ?_)
            · rw [if_neg c18] at hf
              refine sp_iconst (pc := 378) (v := 0) dL_areWritesSo_378 (by decide) ?_
              obtain rfl := Option.some.inj hf
              exact sp_ireturn (pc := 379) dL_areWritesSo_379 rfl rfl (hQ _)
            · rw [if_pos c18] at hf
              refine sp_aload_n (pc := 365) dL_areWritesSo_365 0 rfl ?_
              refine sp_iconst (pc := 366) (v := 2) dL_areWritesSo_366 (by decide) ?_
              obtain ⟨y19, ey19, hf⟩ := ob hf
              obtain ⟨r20, er20, hf⟩ := ob hf
              obtain ⟨fsy19, hoy19⟩ := o_X7_about ey19
              refine sp_callVi (pc := 367) (z := M_X7_about) (As := [.int 2]) (b := v0) (bc2 := bc) (bs2 := bs) (m_X7_about (Q := _) (fun sz => ⟨r20, outT_e er20, ?_⟩) (rt_no er20) ey19) rfl dL_areWritesSo_367 hoy19 rfl rfl ck_L_areWritesSo_8 (Nat.le_of_ble_eq_true rfl) rfl rfl rfl
              refine sp_iconst (pc := 370) (v := 5) dL_areWritesSo_370 (by decide) ?_
              refine sp_icmp_gt (pc := 371) (tgt := 378) dL_areWritesSo_371 (by decide) (fun c21 => ?_) (fun c21 => ?_)
              · rw [if_pos c21] at hf
                refine sp_iconst (pc := 378) (v := 0) dL_areWritesSo_378 (by decide) ?_
                obtain rfl := Option.some.inj hf
                exact sp_ireturn (pc := 379) dL_areWritesSo_379 rfl rfl (hQ _)
              · rw [if_neg c21] at hf
                refine sp_iconst (pc := 374) (v := 1) dL_areWritesSo_374 (by decide) ?_
                refine sp_goto (pc := 375) (tgt := 379) dL_areWritesSo_375 (by decide) ?_
                obtain rfl := Option.some.inj hf
                exact sp_ireturn (pc := 379) dL_areWritesSo_379 rfl rfl (hQ _)
  · rw [if_neg c3] at hf
    refine sp_aload_n (pc := 28) dL_areWritesSo_28 0 rfl ?_
    refine sp_iload (pc := 29) dL_areWritesSo_29 5 rfl ?_
    refine sp_iconst (pc := 31) (v := 0) dL_areWritesSo_31 (by decide) ?_
    obtain ⟨y22, ey22, hf⟩ := ob hf
    obtain ⟨r23, er23, hf⟩ := ob hf
    obtain ⟨fsy22, hoy22⟩ := o_X7_run ey22
    refine sp_callVi (pc := 32) (z := M_X7_run) (As := [.int v5, .int 0]) (b := v0) (bc2 := bc) (bs2 := bs) (m_X7_run (Q := _) (fun sz => ⟨r23, outT_e er23, ?_⟩) (rt_no er23) ey22) rfl dL_areWritesSo_32 hoy22 rfl rfl ck_L_areWritesSo_49 (Nat.le_of_ble_eq_true rfl) rfl rfl rfl
    refine sp_aload_n (pc := 35) dL_areWritesSo_35 0 rfl ?_
    refine sp_iload (pc := 36) dL_areWritesSo_36 5 rfl ?_
    refine sp_iconst (pc := 38) (v := 1) dL_areWritesSo_38 (by decide) ?_
    obtain ⟨y24, ey24, hf⟩ := ob hf
    obtain ⟨r25, er25, hf⟩ := ob hf
    obtain ⟨fsy24, hoy24⟩ := o_X7_run ey24
    refine sp_callVi (pc := 39) (z := M_X7_run) (As := [.int v5, .int 1]) (b := v0) (bc2 := bc) (bs2 := bs) (m_X7_run (Q := _) (fun sz => ⟨r25, outT_e er25, ?_⟩) (rt_no er25) ey24) rfl dL_areWritesSo_39 hoy24 rfl rfl ck_L_areWritesSo_49 (Nat.le_of_ble_eq_true rfl) rfl rfl rfl
    refine sp_iadd (pc := 42) dL_areWritesSo_42 ?_
    refine sp_istore (pc := 43) (lv' := [(6, .int (r23 + r25)), (0, .ref v0), (1, .int v1), (2, .int v2), (3, .int v3), (4, .int v4), (5, .int v5)]) dL_areWritesSo_43 (by decide) rfl ?_
    refine sp_iconst (pc := 45) (v := 0) dL_areWritesSo_45 (by decide) ?_
    refine sp_istore (pc := 46) (lv' := [(7, .int 0), (6, .int (r23 + r25)), (0, .ref v0), (1, .int v1), (2, .int v2), (3, .int v3), (4, .int v4), (5, .int v5)]) dL_areWritesSo_46 (by decide) rfl ?_
    refine sp_iconst (pc := 48) (v := 0) dL_areWritesSo_48 (by decide) ?_
    refine sp_istore (pc := 49) (lv' := [(8, .int 0), (7, .int 0), (6, .int (r23 + r25)), (0, .ref v0), (1, .int v1), (2, .int v2), (3, .int v3), (4, .int v4), (5, .int v5)]) dL_areWritesSo_49 (by decide) rfl ?_
    refine sp_iconst (pc := 51) (v := 0) dL_areWritesSo_51 (by decide) ?_
    refine sp_istore (pc := 52) (lv' := [(9, .int 0), (8, .int 0), (7, .int 0), (6, .int (r23 + r25)), (0, .ref v0), (1, .int v1), (2, .int v2), (3, .int v3), (4, .int v4), (5, .int v5)]) dL_areWritesSo_52 (by decide) rfl ?_
    exact sp_sub [4, 5, 6, 7, 8, 9, 3, 2, 1, 0] rfl (w_L_areWritesSo_54 hQ hk18 FU hf)

theorem w_L_areWritesSo_18 {l : Launch} {X : SCR} {Q : PST} {bc bs : Nat} {res : Int32 × HP} (hQ : ∀ sz', Q (.inl (some (.int res.1))) res.2 sz') {v0 : Nat} : ∀ (n : Nat) {h : HP} {v1 : Int32} {v2 : Int32} {v3 : Int32} {v4 : Int32} {v5 : Int32} {sz : Nat}, b_L_areWritesSo_18 v0 n h v1 v2 v3 v4 v5 = some res → SP l X M_L_areWritesSo 18 [(0, .ref v0), (1, .int v1), (2, .int v2), (3, .int v3), (4, .int v4), (5, .int v5)] [] h sz bc bs Q := by
  intro n
  induction n with
  | zero =>
    intro h v1 v2 v3 v4 v5 sz hf
    rw [b_L_areWritesSo_18] at hf
    cases hf
  | succ n ih =>
    intro h v1 v2 v3 v4 v5 sz hf
    rw [b_L_areWritesSo_18] at hf
    exact wc_L_areWritesSo_18 hQ (fun h v1 v2 v3 v4 v5 sz hf => ih hf) hf

theorem w_L_areWritesSo_0 {l : Launch} {X : SCR} {Q : PST} {bc bs : Nat} {res : Int32 × HP} {h : HP} (hQ : ∀ sz', Q (.inl (some (.int res.1))) res.2 sz') {v0 : Nat} {sz : Nat} (hf : b_L_areWritesSo_0 v0 h  = some res) : SP l X M_L_areWritesSo 0 [(0, .ref v0)] [] h sz bc bs Q := by
  rw [b_L_areWritesSo_0] at hf
  refine sp_iconst (pc := 0) (v := 0) dL_areWritesSo_0 (by decide) ?_
  refine sp_istore_n (pc := 1) (lv' := [(1, .int 0), (0, .ref v0)]) dL_areWritesSo_1 (by decide) rfl ?_
  refine sp_iconst (pc := 2) (v := 0) dL_areWritesSo_2 (by decide) ?_
  refine sp_istore_n (pc := 3) (lv' := [(2, .int 0), (1, .int 0), (0, .ref v0)]) dL_areWritesSo_3 (by decide) rfl ?_
  refine sp_aload_n (pc := 4) dL_areWritesSo_4 2 rfl ?_
  refine sp_iconst (pc := 5) (v := 0) dL_areWritesSo_5 (by decide) ?_
  obtain ⟨y1, ey1, hf⟩ := ob hf
  obtain ⟨r2, er2, hf⟩ := ob hf
  obtain ⟨fsy1, hoy1⟩ := o_X7_about ey1
  refine sp_callVi (pc := 6) (z := M_X7_about) (As := [.int 0]) (b := v0) (bc2 := bc) (bs2 := bs) (m_X7_about (Q := _) (fun sz => ⟨r2, outT_e er2, ?_⟩) (rt_no er2) ey1) rfl dL_areWritesSo_6 hoy1 rfl rfl ck_L_areWritesSo_8 (Nat.le_of_ble_eq_true rfl) rfl rfl rfl
  refine sp_iconst (pc := 9) (v := 1) dL_areWritesSo_9 (by decide) ?_
  refine sp_iadd (pc := 10) dL_areWritesSo_10 ?_
  refine sp_istore_n (pc := 11) (lv' := [(3, .int (r2 + 1)), (2, .int 0), (1, .int 0), (0, .ref v0)]) dL_areWritesSo_11 (by decide) rfl ?_
  refine sp_iconst (pc := 12) (v := 1) dL_areWritesSo_12 (by decide) ?_
  refine sp_istore (pc := 13) (lv' := [(4, .int 1), (3, .int (r2 + 1)), (2, .int 0), (1, .int 0), (0, .ref v0)]) dL_areWritesSo_13 (by decide) rfl ?_
  refine sp_iconst (pc := 15) (v := (-1)) dL_areWritesSo_15 (by decide) ?_
  refine sp_istore (pc := 16) (lv' := [(5, .int (-1)), (4, .int 1), (3, .int (r2 + 1)), (2, .int 0), (1, .int 0), (0, .ref v0)]) dL_areWritesSo_16 (by decide) rfl ?_
  exact sp_sub [5, 4, 3, 2, 1, 0] rfl (w_L_areWritesSo_18 hQ FU hf)

theorem m_L_areWritesSo {l : Launch} {Q : PST} {h : HP} {v0 : Nat} {sz : Nat} {res : Int32 × HP} (hQ : ∀ sz', Q (.inl (some (.int res.1))) res.2 sz') (hf : f_L_areWritesSo h v0 = some res) : MM l M_L_areWritesSo [.ref v0] h sz Q := by
  rw [f_L_areWritesSo] at hf
  exact MM_of wok_L_areWritesSo (by decide +kernel) (Nat.le_of_ble_eq_true rfl) ((w_L_areWritesSo_0 hQ hf))

theorem dL_areKeysSo_0 : decode (mB M_L_areKeysSo) 0 = .ok (.iconst 0, 1) := by decide +kernel
theorem dL_areKeysSo_1 : decode (mB M_L_areKeysSo) 1 = .ok (.istore_n 2, 1) := by decide +kernel
theorem dL_areKeysSo_2 : decode (mB M_L_areKeysSo) 2 = .ok (.iconst 0, 1) := by decide +kernel
theorem dL_areKeysSo_3 : decode (mB M_L_areKeysSo) 3 = .ok (.istore_n 3, 1) := by decide +kernel
theorem dL_areKeysSo_4 : decode (mB M_L_areKeysSo) 4 = .ok (.iconst 1, 1) := by decide +kernel
theorem dL_areKeysSo_5 : decode (mB M_L_areKeysSo) 5 = .ok (.istore 4, 2) := by decide +kernel
theorem dL_areKeysSo_7 : decode (mB M_L_areKeysSo) 7 = .ok (.iconst 0, 1) := by decide +kernel
theorem dL_areKeysSo_8 : decode (mB M_L_areKeysSo) 8 = .ok (.istore 5, 2) := by decide +kernel
theorem dL_areKeysSo_10 : decode (mB M_L_areKeysSo) 10 = .ok (.iload 5, 2) := by decide +kernel
theorem dL_areKeysSo_12 : decode (mB M_L_areKeysSo) 12 = .ok (.bipush 100, 2) := by decide +kernel
theorem dL_areKeysSo_14 : decode (mB M_L_areKeysSo) 14 = .ok (.if_icmp .ge 78, 3) := by decide +kernel
theorem dL_areKeysSo_17 : decode (mB M_L_areKeysSo) 17 = .ok (.aload_n 0, 1) := by decide +kernel
theorem dL_areKeysSo_18 : decode (mB M_L_areKeysSo) 18 = .ok (.iload 5, 2) := by decide +kernel
theorem dL_areKeysSo_20 : decode (mB M_L_areKeysSo) 20 = .ok (.iconst (-1), 1) := by decide +kernel
theorem dL_areKeysSo_21 : decode (mB M_L_areKeysSo) 21 = .ok (.invokevirtual 46, 3) := by decide +kernel
theorem dL_areKeysSo_24 : decode (mB M_L_areKeysSo) 24 = .ok (.istore 6, 2) := by decide +kernel
theorem dL_areKeysSo_26 : decode (mB M_L_areKeysSo) 26 = .ok (.iload_n 2, 1) := by decide +kernel
theorem dL_areKeysSo_27 : decode (mB M_L_areKeysSo) 27 = .ok (.iload 6, 2) := by decide +kernel
theorem dL_areKeysSo_29 : decode (mB M_L_areKeysSo) 29 = .ok (.ifCond .ge 7, 3) := by decide +kernel
theorem dL_areKeysSo_32 : decode (mB M_L_areKeysSo) 32 = .ok (.iconst 0, 1) := by decide +kernel
theorem dL_areKeysSo_33 : decode (mB M_L_areKeysSo) 33 = .ok (.goto 5, 3) := by decide +kernel
theorem dL_areKeysSo_36 : decode (mB M_L_areKeysSo) 36 = .ok (.iload 6, 2) := by decide +kernel
theorem dL_areKeysSo_38 : decode (mB M_L_areKeysSo) 38 = .ok (.iadd, 1) := by decide +kernel
theorem dL_areKeysSo_39 : decode (mB M_L_areKeysSo) 39 = .ok (.istore_n 2, 1) := by decide +kernel
theorem dL_areKeysSo_40 : decode (mB M_L_areKeysSo) 40 = .ok (.iload_n 3, 1) := by decide +kernel
theorem dL_areKeysSo_41 : decode (mB M_L_areKeysSo) 41 = .ok (.iload 6, 2) := by decide +kernel
theorem dL_areKeysSo_43 : decode (mB M_L_areKeysSo) 43 = .ok (.ifCond .ge 7, 3) := by decide +kernel
theorem dL_areKeysSo_46 : decode (mB M_L_areKeysSo) 46 = .ok (.iconst 0, 1) := by decide +kernel
theorem dL_areKeysSo_47 : decode (mB M_L_areKeysSo) 47 = .ok (.goto 4, 3) := by decide +kernel
theorem dL_areKeysSo_50 : decode (mB M_L_areKeysSo) 50 = .ok (.iconst 1, 1) := by decide +kernel
theorem dL_areKeysSo_51 : decode (mB M_L_areKeysSo) 51 = .ok (.iadd, 1) := by decide +kernel
theorem dL_areKeysSo_52 : decode (mB M_L_areKeysSo) 52 = .ok (.istore_n 3, 1) := by decide +kernel
theorem dL_areKeysSo_53 : decode (mB M_L_areKeysSo) 53 = .ok (.iload 4, 2) := by decide +kernel
theorem dL_areKeysSo_55 : decode (mB M_L_areKeysSo) 55 = .ok (.ifCond .eq 28, 3) := by decide +kernel
theorem dL_areKeysSo_58 : decode (mB M_L_areKeysSo) 58 = .ok (.aload_n 0, 1) := by decide +kernel
theorem dL_areKeysSo_59 : decode (mB M_L_areKeysSo) 59 = .ok (.iload 5, 2) := by decide +kernel
theorem dL_areKeysSo_61 : decode (mB M_L_areKeysSo) 61 = .ok (.invokevirtual 56, 3) := by decide +kernel
theorem dL_areKeysSo_64 : decode (mB M_L_areKeysSo) 64 = .ok (.aload_n 0, 1) := by decide +kernel
theorem dL_areKeysSo_65 : decode (mB M_L_areKeysSo) 65 = .ok (.iconst 2, 1) := by decide +kernel
theorem dL_areKeysSo_66 : decode (mB M_L_areKeysSo) 66 = .ok (.invokevirtual 8, 3) := by decide +kernel
theorem dL_areKeysSo_69 : decode (mB M_L_areKeysSo) 69 = .ok (.iconst 1, 1) := by decide +kernel
theorem dL_areKeysSo_70 : decode (mB M_L_areKeysSo) 70 = .ok (.iadd, 1) := by decide +kernel
theorem dL_areKeysSo_71 : decode (mB M_L_areKeysSo) 71 = .ok (.if_icmp .gt 12, 3) := by decide +kernel
theorem dL_areKeysSo_74 : decode (mB M_L_areKeysSo) 74 = .ok (.iload 6, 2) := by decide +kernel
theorem dL_areKeysSo_76 : decode (mB M_L_areKeysSo) 76 = .ok (.ifCond .eq 7, 3) := by decide +kernel
theorem dL_areKeysSo_79 : decode (mB M_L_areKeysSo) 79 = .ok (.iconst 1, 1) := by decide +kernel
theorem dL_areKeysSo_80 : decode (mB M_L_areKeysSo) 80 = .ok (.goto 4, 3) := by decide +kernel
theorem dL_areKeysSo_83 : decode (mB M_L_areKeysSo) 83 = .ok (.iconst 0, 1) := by decide +kernel
theorem dL_areKeysSo_84 : decode (mB M_L_areKeysSo) 84 = .ok (.istore 4, 2) := by decide +kernel
theorem dL_areKeysSo_86 : decode (mB M_L_areKeysSo) 86 = .ok (.iinc 5 1, 3) := by decide +kernel
theorem dL_areKeysSo_89 : decode (mB M_L_areKeysSo) 89 = .ok (.goto (-79), 3) := by decide +kernel
theorem dL_areKeysSo_92 : decode (mB M_L_areKeysSo) 92 = .ok (.aload_n 0, 1) := by decide +kernel
theorem dL_areKeysSo_93 : decode (mB M_L_areKeysSo) 93 = .ok (.iload_n 1, 1) := by decide +kernel
theorem dL_areKeysSo_94 : decode (mB M_L_areKeysSo) 94 = .ok (.iconst (-1), 1) := by decide +kernel
theorem dL_areKeysSo_95 : decode (mB M_L_areKeysSo) 95 = .ok (.invokevirtual 59, 3) := by decide +kernel
theorem dL_areKeysSo_98 : decode (mB M_L_areKeysSo) 98 = .ok (.istore 5, 2) := by decide +kernel
theorem dL_areKeysSo_100 : decode (mB M_L_areKeysSo) 100 = .ok (.iload 4, 2) := by decide +kernel
theorem dL_areKeysSo_102 : decode (mB M_L_areKeysSo) 102 = .ok (.ifCond .eq 65, 3) := by decide +kernel
theorem dL_areKeysSo_105 : decode (mB M_L_areKeysSo) 105 = .ok (.iload_n 3, 1) := by decide +kernel
theorem dL_areKeysSo_106 : decode (mB M_L_areKeysSo) 106 = .ok (.aload_n 0, 1) := by decide +kernel
theorem dL_areKeysSo_107 : decode (mB M_L_areKeysSo) 107 = .ok (.bipush 6, 2) := by decide +kernel
theorem dL_areKeysSo_109 : decode (mB M_L_areKeysSo) 109 = .ok (.invokevirtual 8, 3) := by decide +kernel
theorem dL_areKeysSo_112 : decode (mB M_L_areKeysSo) 112 = .ok (.if_icmp .ne 55, 3) := by decide +kernel
theorem dL_areKeysSo_115 : decode (mB M_L_areKeysSo) 115 = .ok (.iload_n 2, 1) := by decide +kernel
theorem dL_areKeysSo_116 : decode (mB M_L_areKeysSo) 116 = .ok (.aload_n 0, 1) := by decide +kernel
theorem dL_areKeysSo_117 : decode (mB M_L_areKeysSo) 117 = .ok (.bipush 7, 2) := by decide +kernel
theorem dL_areKeysSo_119 : decode (mB M_L_areKeysSo) 119 = .ok (.invokevirtual 8, 3) := by decide +kernel
theorem dL_areKeysSo_122 : decode (mB M_L_areKeysSo) 122 = .ok (.if_icmp .ne 45, 3) := by decide +kernel
theorem dL_areKeysSo_125 : decode (mB M_L_areKeysSo) 125 = .ok (.aload_n 0, 1) := by decide +kernel
theorem dL_areKeysSo_126 : decode (mB M_L_areKeysSo) 126 = .ok (.iconst 0, 1) := by decide +kernel
theorem dL_areKeysSo_127 : decode (mB M_L_areKeysSo) 127 = .ok (.bipush 99, 2) := by decide +kernel
theorem dL_areKeysSo_129 : decode (mB M_L_areKeysSo) 129 = .ok (.iconst (-1), 1) := by decide +kernel
theorem dL_areKeysSo_130 : decode (mB M_L_areKeysSo) 130 = .ok (.invokevirtual 62, 3) := by decide +kernel
theorem dL_areKeysSo_133 : decode (mB M_L_areKeysSo) 133 = .ok (.iload_n 3, 1) := by decide +kernel
theorem dL_areKeysSo_134 : decode (mB M_L_areKeysSo) 134 = .ok (.if_icmp .ne 33, 3) := by decide +kernel
theorem dL_areKeysSo_137 : decode (mB M_L_areKeysSo) 137 = .ok (.aload_n 0, 1) := by decide +kernel
theorem dL_areKeysSo_138 : decode (mB M_L_areKeysSo) 138 = .ok (.invokevirtual 65, 3) := by decide +kernel
theorem dL_areKeysSo_141 : decode (mB M_L_areKeysSo) 141 = .ok (.aload_n 0, 1) := by decide +kernel
theorem dL_areKeysSo_142 : decode (mB M_L_areKeysSo) 142 = .ok (.iconst 5, 1) := by decide +kernel
theorem dL_areKeysSo_143 : decode (mB M_L_areKeysSo) 143 = .ok (.invokevirtual 8, 3) := by decide +kernel
theorem dL_areKeysSo_146 : decode (mB M_L_areKeysSo) 146 = .ok (.if_icmp .gt 21, 3) := by decide +kernel
theorem dL_areKeysSo_149 : decode (mB M_L_areKeysSo) 149 = .ok (.aload_n 0, 1) := by decide +kernel
theorem dL_areKeysSo_150 : decode (mB M_L_areKeysSo) 150 = .ok (.iconst 5, 1) := by decide +kernel
theorem dL_areKeysSo_151 : decode (mB M_L_areKeysSo) 151 = .ok (.invokevirtual 8, 3) := by decide +kernel
theorem dL_areKeysSo_154 : decode (mB M_L_areKeysSo) 154 = .ok (.aload_n 0, 1) := by decide +kernel
theorem dL_areKeysSo_155 : decode (mB M_L_areKeysSo) 155 = .ok (.invokevirtual 65, 3) := by decide +kernel
theorem dL_areKeysSo_158 : decode (mB M_L_areKeysSo) 158 = .ok (.isub, 1) := by decide +kernel
theorem dL_areKeysSo_159 : decode (mB M_L_areKeysSo) 159 = .ok (.iload_n 3, 1) := by decide +kernel
theorem dL_areKeysSo_160 : decode (mB M_L_areKeysSo) 160 = .ok (.if_icmp .lt 7, 3) := by decide +kernel
theorem dL_areKeysSo_163 : decode (mB M_L_areKeysSo) 163 = .ok (.iconst 1, 1) := by decide +kernel
theorem dL_areKeysSo_164 : decode (mB M_L_areKeysSo) 164 = .ok (.goto 4, 3) := by decide +kernel
theorem dL_areKeysSo_167 : decode (mB M_L_areKeysSo) 167 = .ok (.iconst 0, 1) := by decide +kernel
theorem dL_areKeysSo_168 : decode (mB M_L_areKeysSo) 168 = .ok (.istore 4, 2) := by decide +kernel
theorem dL_areKeysSo_170 : decode (mB M_L_areKeysSo) 170 = .ok (.iload 4, 2) := by decide +kernel
theorem dL_areKeysSo_172 : decode (mB M_L_areKeysSo) 172 = .ok (.ifCond .eq 61, 3) := by decide +kernel
theorem dL_areKeysSo_175 : decode (mB M_L_areKeysSo) 175 = .ok (.iload 5, 2) := by decide +kernel
theorem dL_areKeysSo_177 : decode (mB M_L_areKeysSo) 177 = .ok (.ifCond .ge 17, 3) := by decide +kernel
theorem dL_areKeysSo_180 : decode (mB M_L_areKeysSo) 180 = .ok (.aload_n 0, 1) := by decide +kernel
theorem dL_areKeysSo_181 : decode (mB M_L_areKeysSo) 181 = .ok (.iload_n 1, 1) := by decide +kernel
theorem dL_areKeysSo_182 : decode (mB M_L_areKeysSo) 182 = .ok (.bipush 99, 2) := by decide +kernel
theorem dL_areKeysSo_184 : decode (mB M_L_areKeysSo) 184 = .ok (.iconst (-1), 1) := by decide +kernel
theorem dL_areKeysSo_185 : decode (mB M_L_areKeysSo) 185 = .ok (.invokevirtual 62, 3) := by decide +kernel
theorem dL_areKeysSo_188 : decode (mB M_L_areKeysSo) 188 = .ok (.ifCond .ne 45, 3) := by decide +kernel
theorem dL_areKeysSo_191 : decode (mB M_L_areKeysSo) 191 = .ok (.goto 38, 3) := by decide +kernel
theorem dL_areKeysSo_194 : decode (mB M_L_areKeysSo) 194 = .ok (.iload 5, 2) := by decide +kernel
theorem dL_areKeysSo_196 : decode (mB M_L_areKeysSo) 196 = .ok (.iload_n 1, 1) := by decide +kernel
theorem dL_areKeysSo_197 : decode (mB M_L_areKeysSo) 197 = .ok (.if_icmp .lt 36, 3) := by decide +kernel
theorem dL_areKeysSo_200 : decode (mB M_L_areKeysSo) 200 = .ok (.aload_n 0, 1) := by decide +kernel
theorem dL_areKeysSo_201 : decode (mB M_L_areKeysSo) 201 = .ok (.iload 5, 2) := by decide +kernel
theorem dL_areKeysSo_203 : decode (mB M_L_areKeysSo) 203 = .ok (.iconst (-1), 1) := by decide +kernel
theorem dL_areKeysSo_204 : decode (mB M_L_areKeysSo) 204 = .ok (.invokevirtual 46, 3) := by decide +kernel
theorem dL_areKeysSo_207 : decode (mB M_L_areKeysSo) 207 = .ok (.ifCond .le 26, 3) := by decide +kernel
theorem dL_areKeysSo_210 : decode (mB M_L_areKeysSo) 210 = .ok (.iload 5, 2) := by decide +kernel
theorem dL_areKeysSo_212 : decode (mB M_L_areKeysSo) 212 = .ok (.iload_n 1, 1) := by decide +kernel
theorem dL_areKeysSo_213 : decode (mB M_L_areKeysSo) 213 = .ok (.if_icmp .eq 16, 3) := by decide +kernel
theorem dL_areKeysSo_216 : decode (mB M_L_areKeysSo) 216 = .ok (.aload_n 0, 1) := by decide +kernel
theorem dL_areKeysSo_217 : decode (mB M_L_areKeysSo) 217 = .ok (.iload_n 1, 1) := by decide +kernel
theorem dL_areKeysSo_218 : decode (mB M_L_areKeysSo) 218 = .ok (.iload 5, 2) := by decide +kernel
theorem dL_areKeysSo_220 : decode (mB M_L_areKeysSo) 220 = .ok (.iconst 1, 1) := by decide +kernel
theorem dL_areKeysSo_221 : decode (mB M_L_areKeysSo) 221 = .ok (.isub, 1) := by decide +kernel
theorem dL_areKeysSo_222 : decode (mB M_L_areKeysSo) 222 = .ok (.iconst (-1), 1) := by decide +kernel
theorem dL_areKeysSo_223 : decode (mB M_L_areKeysSo) 223 = .ok (.invokevirtual 62, 3) := by decide +kernel
theorem dL_areKeysSo_226 : decode (mB M_L_areKeysSo) 226 = .ok (.ifCond .ne 7, 3) := by decide +kernel
theorem dL_areKeysSo_229 : decode (mB M_L_areKeysSo) 229 = .ok (.iconst 1, 1) := by decide +kernel
theorem dL_areKeysSo_230 : decode (mB M_L_areKeysSo) 230 = .ok (.goto 4, 3) := by decide +kernel
theorem dL_areKeysSo_233 : decode (mB M_L_areKeysSo) 233 = .ok (.iconst 0, 1) := by decide +kernel
theorem dL_areKeysSo_234 : decode (mB M_L_areKeysSo) 234 = .ok (.ireturn, 1) := by decide +kernel
def b_L_areKeysSo_168 (v0 : Nat) (v1 : Int32) (h : HP) (v5 : Int32) (s0 : Int32) : Option (Int32 × HP) :=
  if s0 = 0 then some (0, h) else if 0 ≤ v5 then if v5 < v1 then some (0, h) else (f_X7_get h v0 v5 (-1)).bind fun y4 => (rt y4).bind fun r5 => if r5 ≤ 0 then some (0, h) else if v5 = v1 then some (1, h) else (f_X7_count h v0 v1 (v5 - 1) (-1)).bind fun y8 => (rt y8.1).bind fun r9 => if r9 = 0 then some (1, y8.2) else some (0, y8.2) else (f_X7_count h v0 v1 99 (-1)).bind fun y11 => (rt y11.1).bind fun r12 => if r12 = 0 then some (1, y11.2) else some (0, y11.2)
def b_L_areKeysSo_51 (v0 : Nat) (v1 : Int32) (k10 : HP → Int32 → Int32 → Int32 → Int32 → Option (Int32 × HP)) (h : HP) (v2 : Int32) (v4 : Int32) (v5 : Int32) (v6 : Int32) (s0 : Int32) (s1 : Int32) : Option (Int32 × HP) :=
  if v4 = 0 then k10 h v2 (s0 + s1) 0 (v5 + 1) else (f_X7_looks h v0 v5).bind fun y2 => (rt y2).bind fun r3 => (f_X7_about h v0 2).bind fun y4 => (rt y4.1).bind fun r5 => if (r5 + 1) < r3 then k10 y4.2 v2 (s0 + s1) 0 (v5 + 1) else if v6 = 0 then k10 y4.2 v2 (s0 + s1) 0 (v5 + 1) else k10 y4.2 v2 (s0 + s1) 1 (v5 + 1)
def b_L_areKeysSo_38 (v0 : Nat) (v1 : Int32) (k10 : HP → Int32 → Int32 → Int32 → Int32 → Option (Int32 × HP)) (h : HP) (v3 : Int32) (v4 : Int32) (v5 : Int32) (v6 : Int32) (s0 : Int32) (s1 : Int32) : Option (Int32 × HP) :=
  if 0 ≤ v6 then b_L_areKeysSo_51 v0 v1 k10 h (s0 + s1) v4 v5 v6 v3 1 else b_L_areKeysSo_51 v0 v1 k10 h (s0 + s1) v4 v5 v6 v3 0
def c_L_areKeysSo_10 (v0 : Nat) (v1 : Int32) (k10 : HP → Int32 → Int32 → Int32 → Int32 → Option (Int32 × HP)) (h : HP) (v2 : Int32) (v3 : Int32) (v4 : Int32) (v5 : Int32) : Option (Int32 × HP) :=
  if 100 ≤ v5 then (f_X7_next h v0 v1 (-1)).bind fun y2 => (rt y2.1).bind fun r3 => if v4 = 0 then b_L_areKeysSo_168 v0 v1 y2.2 r3 0 else (f_X7_about y2.2 v0 6).bind fun y5 => (rt y5.1).bind fun r6 => if v3 = r6 then (f_X7_about y5.2 v0 7).bind fun y8 => (rt y8.1).bind fun r9 => if v2 = r9 then (f_X7_count y8.2 v0 0 99 (-1)).bind fun y11 => (rt y11.1).bind fun r12 => if r12 = v3 then (f_X7_hidden y11.2 v0).bind fun y14 => (f_X7_about y11.2 v0 5).bind fun y15 => (rt y15.1).bind fun r16 => if r16 < y14 then b_L_areKeysSo_168 v0 v1 y15.2 r3 0 else (f_X7_about y15.2 v0 5).bind fun y18 => (rt y18.1).bind fun r19 => (f_X7_hidden y18.2 v0).bind fun y20 => if (r19 - y20) < v3 then b_L_areKeysSo_168 v0 v1 y18.2 r3 0 else b_L_areKeysSo_168 v0 v1 y18.2 r3 1 else b_L_areKeysSo_168 v0 v1 y11.2 r3 0 else b_L_areKeysSo_168 v0 v1 y8.2 r3 0 else b_L_areKeysSo_168 v0 v1 y5.2 r3 0 else (f_X7_get h v0 v5 (-1)).bind fun y22 => (rt y22).bind fun r23 => if 0 ≤ r23 then b_L_areKeysSo_38 v0 v1 k10 h v3 v4 v5 r23 v2 r23 else b_L_areKeysSo_38 v0 v1 k10 h v3 v4 v5 r23 v2 0
def b_L_areKeysSo_10 (v0 : Nat) (v1 : Int32) : Nat → HP → Int32 → Int32 → Int32 → Int32 → Option (Int32 × HP)
  | 0, _, _, _, _, _ => none
  | n + 1, h, v2, v3, v4, v5 => c_L_areKeysSo_10 v0 v1 (b_L_areKeysSo_10 v0 v1 n) h v2 v3 v4 v5
def b_L_areKeysSo_0 (v0 : Nat) (v1 : Int32) (h : HP) : Option (Int32 × HP) :=
  b_L_areKeysSo_10 v0 v1 FU h 0 0 1 0
def f_L_areKeysSo (h : HP) (v0 : Nat) (v1 : Int32) : Option (Int32 × HP) := b_L_areKeysSo_0 v0 v1 h
theorem w_L_areKeysSo_168 {l : Launch} {X : SCR} {Q : PST} {bc bs : Nat} {res : Int32 × HP} {h : HP} (hQ : ∀ sz', Q (.inl (some (.int res.1))) res.2 sz') {v0 : Nat} {v1 : Int32} {v5 : Int32} {s0 : Int32} {sz : Nat} (hf : b_L_areKeysSo_168 v0 v1 h v5 s0 = some res) : SP l X M_L_areKeysSo 168 [(0, .ref v0), (1, .int v1), (5, .int v5)] [.int s0] h sz bc bs Q := by
  rw [b_L_areKeysSo_168] at hf
  refine sp_istore (pc := 168) (lv' := [(4, .int s0), (0, .ref v0), (1, .int v1), (5, .int v5)]) dL_areKeysSo_168 (by decide) rfl ?_
  refine sp_iload (pc := 170) dL_areKeysSo_170 0 rfl ?_
  refine sp_if_eq (pc := 172) (tgt := 233) dL_areKeysSo_172 (by decide) (fun c1 => ?_) (fun c1 => ?_)
  · rw [if_pos c1] at hf
    refine sp_iconst (pc := 233) (v := 0) dL_areKeysSo_233 (by decide) ?_
    obtain rfl := Option.some.inj hf
    exact sp_ireturn (pc := 234) dL_areKeysSo_234 rfl rfl (hQ _)
  · rw [if_neg c1] at hf
    refine sp_iload (pc := 175) dL_areKeysSo_175 3 rfl ?_
    refine sp_if_ge (pc := 177) (tgt := 194) dL_areKeysSo_177 (by decide) (fun c2 => ?_) (fun c2 => ?_)
    · rw [if_pos c2] at hf
      refine sp_iload (pc := 194) dL_areKeysSo_194 3 rfl ?_
      refine sp_iload_n (pc := 196) dL_areKeysSo_196 2 rfl ?_
      refine sp_icmp_lt (pc := 197) (tgt := 233) dL_areKeysSo_197 (by decide) (fun c3 => ?_) (fun c3 => ?_)
      · rw [if_pos c3] at hf
        refine sp_iconst (pc := 233) (v := 0) dL_areKeysSo_233 (by decide) ?_
        obtain rfl := Option.some.inj hf
        exact sp_ireturn (pc := 234) dL_areKeysSo_234 rfl rfl (hQ _)
      · rw [if_neg c3] at hf
        refine sp_aload_n (pc := 200) dL_areKeysSo_200 1 rfl ?_
        refine sp_iload (pc := 201) dL_areKeysSo_201 3 rfl ?_
        refine sp_iconst (pc := 203) (v := (-1)) dL_areKeysSo_203 (by decide) ?_
        obtain ⟨y4, ey4, hf⟩ := ob hf
        obtain ⟨r5, er5, hf⟩ := ob hf
        obtain ⟨fsy4, hoy4⟩ := o_X7_get ey4
        refine sp_callVi (pc := 204) (z := M_X7_get) (As := [.int v5, .int (-1)]) (b := v0) (bc2 := bc) (bs2 := bs) (m_X7_get (Q := _) (fun sz => ⟨r5, outT_e er5, ?_⟩) (rt_no er5) ey4) rfl dL_areKeysSo_204 hoy4 rfl rfl ck_L_areKeysSo_46 (Nat.le_of_ble_eq_true rfl) rfl rfl rfl
        refine sp_if_le (pc := 207) (tgt := 233) dL_areKeysSo_207 (by decide) (fun c6 => ?_) (fun c6 => ?_)
        · rw [if_pos c6] at hf
          refine sp_iconst (pc := 233) (v := 0) dL_areKeysSo_233 (by decide) ?_
          obtain rfl := Option.some.inj hf
          exact sp_ireturn (pc := 234) dL_areKeysSo_234 rfl rfl (hQ _)
        · rw [if_neg c6] at hf
          refine sp_iload (pc := 210) dL_areKeysSo_210 3 rfl ?_
          refine sp_iload_n (pc := 212) dL_areKeysSo_212 2 rfl ?_
          refine sp_icmp_eq (pc := 213) (tgt := 229) dL_areKeysSo_213 (by decide) (fun c7 => ?_) (fun c7 => ?_)
          · rw [if_pos c7] at hf
            refine sp_iconst (pc := 229) (v := 1) dL_areKeysSo_229 (by decide) ?_
            refine sp_goto (pc := 230) (tgt := 234) dL_areKeysSo_230 (by decide) ?_
            obtain rfl := Option.some.inj hf
            exact sp_ireturn (pc := 234) dL_areKeysSo_234 rfl rfl (hQ _)
          · rw [if_neg c7] at hf
            refine sp_aload_n (pc := 216) dL_areKeysSo_216 1 rfl ?_
            refine sp_iload_n (pc := 217) dL_areKeysSo_217 2 rfl ?_
            refine sp_iload (pc := 218) dL_areKeysSo_218 3 rfl ?_
            refine sp_iconst (pc := 220) (v := 1) dL_areKeysSo_220 (by decide) ?_
            refine sp_isub (pc := 221) dL_areKeysSo_221 ?_
            refine sp_iconst (pc := 222) (v := (-1)) dL_areKeysSo_222 (by decide) ?_
            obtain ⟨y8, ey8, hf⟩ := ob hf
            obtain ⟨r9, er9, hf⟩ := ob hf
            obtain ⟨fsy8, hoy8⟩ := o_X7_count ey8
            refine sp_callVi (pc := 223) (z := M_X7_count) (As := [.int v1, .int (v5 - 1), .int (-1)]) (b := v0) (bc2 := bc) (bs2 := bs) (m_X7_count (Q := _) (fun sz => ⟨r9, outT_e er9, ?_⟩) (rt_no er9) ey8) rfl dL_areKeysSo_223 hoy8 rfl rfl ck_L_areKeysSo_62 (Nat.le_of_ble_eq_true rfl) rfl rfl rfl
            refine sp_if_ne (pc := 226) (tgt := 233) dL_areKeysSo_226 (by decide) (fun c10 => ?_) (fun c10 => ?_)
            · rw [if_neg c10] at hf
              refine sp_iconst (pc := 233) (v := 0) dL_areKeysSo_233 (by decide) ?_
              obtain rfl := Option.some.inj hf
              exact sp_ireturn (pc := 234) dL_areKeysSo_234 rfl rfl (hQ _)
            · rw [if_pos c10] at hf
              refine sp_iconst (pc := 229) (v := 1) dL_areKeysSo_229 (by decide) ?_
              refine sp_goto (pc := 230) (tgt := 234) dL_areKeysSo_230 (by decide) ?_
              obtain rfl := Option.some.inj hf
              exact sp_ireturn (pc := 234) dL_areKeysSo_234 rfl rfl (hQ _)
    · rw [if_neg c2] at hf
      refine sp_aload_n (pc := 180) dL_areKeysSo_180 1 rfl ?_
      refine sp_iload_n (pc := 181) dL_areKeysSo_181 2 rfl ?_
      refine sp_bipush (pc := 182) (v := 99) dL_areKeysSo_182 (by decide) ?_
      refine sp_iconst (pc := 184) (v := (-1)) dL_areKeysSo_184 (by decide) ?_
      obtain ⟨y11, ey11, hf⟩ := ob hf
      obtain ⟨r12, er12, hf⟩ := ob hf
      obtain ⟨fsy11, hoy11⟩ := o_X7_count ey11
      refine sp_callVi (pc := 185) (z := M_X7_count) (As := [.int v1, .int 99, .int (-1)]) (b := v0) (bc2 := bc) (bs2 := bs) (m_X7_count (Q := _) (fun sz => ⟨r12, outT_e er12, ?_⟩) (rt_no er12) ey11) rfl dL_areKeysSo_185 hoy11 rfl rfl ck_L_areKeysSo_62 (Nat.le_of_ble_eq_true rfl) rfl rfl rfl
      refine sp_if_ne (pc := 188) (tgt := 233) dL_areKeysSo_188 (by decide) (fun c13 => ?_) (fun c13 => ?_)
      · rw [if_neg c13] at hf
        refine sp_iconst (pc := 233) (v := 0) dL_areKeysSo_233 (by decide) ?_
        obtain rfl := Option.some.inj hf
        exact sp_ireturn (pc := 234) dL_areKeysSo_234 rfl rfl (hQ _)
      · rw [if_pos c13] at hf
        refine sp_goto (pc := 191) (tgt := 229) dL_areKeysSo_191 (by decide) ?_
        refine sp_iconst (pc := 229) (v := 1) dL_areKeysSo_229 (by decide) ?_
        refine sp_goto (pc := 230) (tgt := 234) dL_areKeysSo_230 (by decide) ?_
        obtain rfl := Option.some.inj hf
        exact sp_ireturn (pc := 234) dL_areKeysSo_234 rfl rfl (hQ _)

theorem w_L_areKeysSo_51 {l : Launch} {X : SCR} {Q : PST} {bc bs : Nat} {res : Int32 × HP} {h : HP} (hQ : ∀ sz', Q (.inl (some (.int res.1))) res.2 sz') {v0 : Nat} {v1 : Int32} {k10 : HP → Int32 → Int32 → Int32 → Int32 → Option (Int32 × HP)} (hk10 : ∀ (h : HP) (v2 : Int32) (v3 : Int32) (v4 : Int32) (v5 : Int32) (sz : Nat), k10 h v2 v3 v4 v5 = some res → SP l X M_L_areKeysSo 10 [(0, .ref v0), (1, .int v1), (2, .int v2), (3, .int v3), (4, .int v4), (5, .int v5)] [] h sz bc bs Q) {v2 : Int32} {v4 : Int32} {v5 : Int32} {v6 : Int32} {s0 : Int32} {s1 : Int32} {sz : Nat} (hf : b_L_areKeysSo_51 v0 v1 k10 h v2 v4 v5 v6 s0 s1 = some res) : SP l X M_L_areKeysSo 51 [(0, .ref v0), (1, .int v1), (2, .int v2), (4, .int v4), (5, .int v5), (6, .int v6)] [.int s1, .int s0] h sz bc bs Q := by
  rw [b_L_areKeysSo_51] at hf
  refine sp_iadd (pc := 51) dL_areKeysSo_51 ?_
  refine sp_istore_n (pc := 52) (lv' := [(3, .int (s0 + s1)), (0, .ref v0), (1, .int v1), (2, .int v2), (4, .int v4), (5, .int v5), (6, .int v6)]) dL_areKeysSo_52 (by decide) rfl ?_
  refine sp_iload (pc := 53) dL_areKeysSo_53 4 rfl ?_
  refine sp_if_eq (pc := 55) (tgt := 83) dL_areKeysSo_55 (by decide) (fun c1 => ?_) (fun c1 => ?_)
  · rw [if_pos c1] at hf
    refine sp_iconst (pc := 83) (v := 0) dL_areKeysSo_83 (by decide) ?_
    refine sp_istore (pc := 84) (lv' := [(4, .int 0), (3, .int (s0 + s1)), (0, .ref v0), (1, .int v1), (2, .int v2), (5, .int v5), (6, .int v6)]) dL_areKeysSo_84 (by decide) rfl ?_
    refine sp_iinc (pc := 86) (v := v5 + 1) (lv' := [(5, .int (v5 + 1)), (4, .int 0), (3, .int (s0 + s1)), (0, .ref v0), (1, .int v1), (2, .int v2), (6, .int v6)]) dL_areKeysSo_86 5 rfl rfl (by decide) rfl ?_
    refine sp_goto (pc := 89) (tgt := 10) dL_areKeysSo_89 (by decide) ?_
    exact sp_sub [3, 4, 5, 2, 1, 0] rfl (hk10 _ _ _ _ _ _ hf)
  · rw [if_neg c1] at hf
    refine sp_aload_n (pc := 58) dL_areKeysSo_58 1 rfl ?_
    refine sp_iload (pc := 59) dL_areKeysSo_59 5 rfl ?_
    obtain ⟨y2, ey2, hf⟩ := ob hf
    obtain ⟨r3, er3, hf⟩ := ob hf
    obtain ⟨fsy2, hoy2⟩ := o_X7_looks ey2
    refine sp_callVi (pc := 61) (z := M_X7_looks) (As := [.int v5]) (b := v0) (bc2 := bc) (bs2 := bs) (m_X7_looks (Q := _) (fun sz => ⟨r3, outT_e er3, ?_⟩) (rt_no er3) ey2) rfl dL_areKeysSo_61 hoy2 rfl rfl ck_L_areKeysSo_56 (Nat.le_of_ble_eq_true rfl) rfl rfl rfl
    refine sp_aload_n (pc := 64) dL_areKeysSo_64 1 rfl ?_
    refine sp_iconst (pc := 65) (v := 2) dL_areKeysSo_65 (by decide) ?_
    obtain ⟨y4, ey4, hf⟩ := ob hf
    obtain ⟨r5, er5, hf⟩ := ob hf
    obtain ⟨fsy4, hoy4⟩ := o_X7_about ey4
    refine sp_callVi (pc := 66) (z := M_X7_about) (As := [.int 2]) (b := v0) (bc2 := bc) (bs2 := bs) (m_X7_about (Q := _) (fun sz => ⟨r5, outT_e er5, ?_⟩) (rt_no er5) ey4) rfl dL_areKeysSo_66 hoy4 rfl rfl ck_L_areKeysSo_8 (Nat.le_of_ble_eq_true rfl) rfl rfl rfl
    refine sp_iconst (pc := 69) (v := 1) dL_areKeysSo_69 (by decide) ?_
    refine sp_iadd (pc := 70) dL_areKeysSo_70 ?_
    refine sp_icmp_gt (pc := 71) (tgt := 83) dL_areKeysSo_71 (by decide) (fun c6 => ?_) (fun c6 => ?_)
    · rw [if_pos c6] at hf
      refine sp_iconst (pc := 83) (v := 0) dL_areKeysSo_83 (by decide) ?_
      refine sp_istore (pc := 84) (lv' := [(4, .int 0), (3, .int (s0 + s1)), (0, .ref v0), (1, .int v1), (2, .int v2), (5, .int v5), (6, .int v6)]) dL_areKeysSo_84 (by decide) rfl ?_
      refine sp_iinc (pc := 86) (v := v5 + 1) (lv' := [(5, .int (v5 + 1)), (4, .int 0), (3, .int (s0 + s1)), (0, .ref v0), (1, .int v1), (2, .int v2), (6, .int v6)]) dL_areKeysSo_86 5 rfl rfl (by decide) rfl ?_
      refine sp_goto (pc := 89) (tgt := 10) dL_areKeysSo_89 (by decide) ?_
      exact sp_sub [3, 4, 5, 2, 1, 0] rfl (hk10 _ _ _ _ _ _ hf)
    · rw [if_neg c6] at hf
      refine sp_iload (pc := 74) dL_areKeysSo_74 6 rfl ?_
      refine sp_if_eq (pc := 76) (tgt := 83) dL_areKeysSo_76 (by decide) (fun c7 => ?_) (fun c7 => ?_)
      · rw [if_pos c7] at hf
        refine sp_iconst (pc := 83) (v := 0) dL_areKeysSo_83 (by decide) ?_
        refine sp_istore (pc := 84) (lv' := [(4, .int 0), (3, .int (s0 + s1)), (0, .ref v0), (1, .int v1), (2, .int v2), (5, .int v5), (6, .int v6)]) dL_areKeysSo_84 (by decide) rfl ?_
        refine sp_iinc (pc := 86) (v := v5 + 1) (lv' := [(5, .int (v5 + 1)), (4, .int 0), (3, .int (s0 + s1)), (0, .ref v0), (1, .int v1), (2, .int v2), (6, .int v6)]) dL_areKeysSo_86 5 rfl rfl (by decide) rfl ?_
        refine sp_goto (pc := 89) (tgt := 10) dL_areKeysSo_89 (by decide) ?_
        exact sp_sub [3, 4, 5, 2, 1, 0] rfl (hk10 _ _ _ _ _ _ hf)
      · rw [if_neg c7] at hf
        refine sp_iconst (pc := 79) (v := 1) dL_areKeysSo_79 (by decide) ?_
        refine sp_goto (pc := 80) (tgt := 84) dL_areKeysSo_80 (by decide) ?_
        refine sp_istore (pc := 84) (lv' := [(4, .int 1), (3, .int (s0 + s1)), (0, .ref v0), (1, .int v1), (2, .int v2), (5, .int v5), (6, .int v6)]) dL_areKeysSo_84 (by decide) rfl ?_
        refine sp_iinc (pc := 86) (v := v5 + 1) (lv' := [(5, .int (v5 + 1)), (4, .int 1), (3, .int (s0 + s1)), (0, .ref v0), (1, .int v1), (2, .int v2), (6, .int v6)]) dL_areKeysSo_86 5 rfl rfl (by decide) rfl ?_
        refine sp_goto (pc := 89) (tgt := 10) dL_areKeysSo_89 (by decide) ?_
        exact sp_sub [3, 4, 5, 2, 1, 0] rfl (hk10 _ _ _ _ _ _ hf)

theorem w_L_areKeysSo_38 {l : Launch} {X : SCR} {Q : PST} {bc bs : Nat} {res : Int32 × HP} {h : HP} (hQ : ∀ sz', Q (.inl (some (.int res.1))) res.2 sz') {v0 : Nat} {v1 : Int32} {k10 : HP → Int32 → Int32 → Int32 → Int32 → Option (Int32 × HP)} (hk10 : ∀ (h : HP) (v2 : Int32) (v3 : Int32) (v4 : Int32) (v5 : Int32) (sz : Nat), k10 h v2 v3 v4 v5 = some res → SP l X M_L_areKeysSo 10 [(0, .ref v0), (1, .int v1), (2, .int v2), (3, .int v3), (4, .int v4), (5, .int v5)] [] h sz bc bs Q) {v3 : Int32} {v4 : Int32} {v5 : Int32} {v6 : Int32} {s0 : Int32} {s1 : Int32} {sz : Nat} (hf : b_L_areKeysSo_38 v0 v1 k10 h v3 v4 v5 v6 s0 s1 = some res) : SP l X M_L_areKeysSo 38 [(0, .ref v0), (1, .int v1), (3, .int v3), (4, .int v4), (5, .int v5), (6, .int v6)] [.int s1, .int s0] h sz bc bs Q := by
  rw [b_L_areKeysSo_38] at hf
  refine sp_iadd (pc := 38) dL_areKeysSo_38 ?_
  refine sp_istore_n (pc := 39) (lv' := [(2, .int (s0 + s1)), (0, .ref v0), (1, .int v1), (3, .int v3), (4, .int v4), (5, .int v5), (6, .int v6)]) dL_areKeysSo_39 (by decide) rfl ?_
  refine sp_iload_n (pc := 40) dL_areKeysSo_40 3 rfl ?_
  refine sp_iload (pc := 41) dL_areKeysSo_41 6 rfl ?_
  refine sp_if_ge (pc := 43) (tgt := 50) dL_areKeysSo_43 (by decide) (fun c1 => ?_) (fun c1 => ?_)
  · rw [if_pos c1] at hf
    refine sp_iconst (pc := 50) (v := 1) dL_areKeysSo_50 (by decide) ?_
    exact sp_sub [1, 2, 0, 4, 5, 6] rfl (w_L_areKeysSo_51 hQ hk10 hf)
  · rw [if_neg c1] at hf
    refine sp_iconst (pc := 46) (v := 0) dL_areKeysSo_46 (by decide) ?_
    refine sp_goto (pc := 47) (tgt := 51) dL_areKeysSo_47 (by decide) ?_
    exact sp_sub [1, 2, 0, 4, 5, 6] rfl (w_L_areKeysSo_51 hQ hk10 hf)

theorem wc_L_areKeysSo_10 {l : Launch} {X : SCR} {Q : PST} {bc bs : Nat} {res : Int32 × HP} (hQ : ∀ sz', Q (.inl (some (.int res.1))) res.2 sz') {v0 : Nat} {v1 : Int32} {k10 : HP → Int32 → Int32 → Int32 → Int32 → Option (Int32 × HP)} (hk10 : ∀ (h : HP) (v2 : Int32) (v3 : Int32) (v4 : Int32) (v5 : Int32) (sz : Nat), k10 h v2 v3 v4 v5 = some res → SP l X M_L_areKeysSo 10 [(0, .ref v0), (1, .int v1), (2, .int v2), (3, .int v3), (4, .int v4), (5, .int v5)] [] h sz bc bs Q) {h : HP} {v2 : Int32} {v3 : Int32} {v4 : Int32} {v5 : Int32} {sz : Nat} (hf : c_L_areKeysSo_10 v0 v1 k10 h v2 v3 v4 v5 = some res) : SP l X M_L_areKeysSo 10 [(0, .ref v0), (1, .int v1), (2, .int v2), (3, .int v3), (4, .int v4), (5, .int v5)] [] h sz bc bs Q := by
  rw [c_L_areKeysSo_10] at hf
  refine sp_iload (pc := 10) dL_areKeysSo_10 5 rfl ?_
  refine sp_bipush (pc := 12) (v := 100) dL_areKeysSo_12 (by decide) ?_
  refine sp_icmp_ge (pc := 14) (tgt := 92) dL_areKeysSo_14 (by decide) (fun c1 => ?_) (fun c1 => ?_)
  · rw [if_pos c1] at hf
    refine sp_aload_n (pc := 92) dL_areKeysSo_92 0 rfl ?_
    refine sp_iload_n (pc := 93) dL_areKeysSo_93 1 rfl ?_
    refine sp_iconst (pc := 94) (v := (-1)) dL_areKeysSo_94 (by decide) ?_
    obtain ⟨y2, ey2, hf⟩ := ob hf
    obtain ⟨r3, er3, hf⟩ := ob hf
    obtain ⟨fsy2, hoy2⟩ := o_X7_next ey2
    refine sp_callVi (pc := 95) (z := M_X7_next) (As := [.int v1, .int (-1)]) (b := v0) (bc2 := bc) (bs2 := bs) (m_X7_next (Q := _) (fun sz => ⟨r3, outT_e er3, ?_⟩) (rt_no er3) ey2) rfl dL_areKeysSo_95 hoy2 rfl rfl ck_L_areKeysSo_59 (Nat.le_of_ble_eq_true rfl) rfl rfl rfl
    refine sp_istore (pc := 98) (lv' := [(5, .int r3), (0, .ref v0), (1, .int v1), (2, .int v2), (3, .int v3), (4, .int v4)]) dL_areKeysSo_98 (by decide) rfl ?_
    refine sp_iload (pc := 100) dL_areKeysSo_100 5 rfl ?_
    refine sp_if_eq (pc := 102) (tgt := 167) dL_areKeysSo_102 (by decide) (fun c4 => ?_) (fun c4 => ?_)
    · rw [if_pos c4] at hf
      refine sp_iconst (pc := 167) (v := 0) dL_areKeysSo_167 (by decide) ?_
      exact sp_sub [1, 2, 0] rfl (w_L_areKeysSo_168 hQ hf)
    · rw [if_neg c4] at hf
      refine sp_iload_n (pc := 105) dL_areKeysSo_105 4 rfl ?_
      refine sp_aload_n (pc := 106) dL_areKeysSo_106 1 rfl ?_
      refine sp_bipush (pc := 107) (v := 6) dL_areKeysSo_107 (by decide) ?_
      obtain ⟨y5, ey5, hf⟩ := ob hf
      obtain ⟨r6, er6, hf⟩ := ob hf
      obtain ⟨fsy5, hoy5⟩ := o_X7_about ey5
      refine sp_callVi (pc := 109) (z := M_X7_about) (As := [.int 6]) (b := v0) (bc2 := bc) (bs2 := bs) (m_X7_about (Q := _) (fun sz => ⟨r6, outT_e er6, ?_⟩) (rt_no er6) ey5) rfl dL_areKeysSo_109 hoy5 rfl rfl ck_L_areKeysSo_8 (Nat.le_of_ble_eq_true rfl) rfl rfl rfl
      refine sp_icmp_ne (pc := 112) (tgt := 167) dL_areKeysSo_112 (by decide) (fun c7 => ?_) (fun c7 => ?_)
      · rw [if_neg c7] at hf
        refine sp_iconst (pc := 167) (v := 0) dL_areKeysSo_167 (by decide) ?_
        exact sp_sub [1, 2, 0] rfl (w_L_areKeysSo_168 hQ hf)
      · rw [if_pos c7] at hf
        refine sp_iload_n (pc := 115) dL_areKeysSo_115 3 rfl ?_
        refine sp_aload_n (pc := 116) dL_areKeysSo_116 1 rfl ?_
        refine sp_bipush (pc := 117) (v := 7) dL_areKeysSo_117 (by decide) ?_
        obtain ⟨y8, ey8, hf⟩ := ob hf
        obtain ⟨r9, er9, hf⟩ := ob hf
        obtain ⟨fsy8, hoy8⟩ := o_X7_about ey8
        refine sp_callVi (pc := 119) (z := M_X7_about) (As := [.int 7]) (b := v0) (bc2 := bc) (bs2 := bs) (m_X7_about (Q := _) (fun sz => ⟨r9, outT_e er9, ?_⟩) (rt_no er9) ey8) rfl dL_areKeysSo_119 hoy8 rfl rfl ck_L_areKeysSo_8 (Nat.le_of_ble_eq_true rfl) rfl rfl rfl
        refine sp_icmp_ne (pc := 122) (tgt := 167) dL_areKeysSo_122 (by decide) (fun c10 => ?_) (fun c10 => ?_)
        · rw [if_neg c10] at hf
          refine sp_iconst (pc := 167) (v := 0) dL_areKeysSo_167 (by decide) ?_
          exact sp_sub [1, 2, 0] rfl (w_L_areKeysSo_168 hQ hf)
        · rw [if_pos c10] at hf
          refine sp_aload_n (pc := 125) dL_areKeysSo_125 1 rfl ?_
          refine sp_iconst (pc := 126) (v := 0) dL_areKeysSo_126 (by decide) ?_
          refine sp_bipush (pc := 127) (v := 99) dL_areKeysSo_127 (by decide) ?_
          refine sp_iconst (pc := 129) (v := (-1)) dL_areKeysSo_129 (by decide) ?_
          obtain ⟨y11, ey11, hf⟩ := ob hf
          obtain ⟨r12, er12, hf⟩ := ob hf
          obtain ⟨fsy11, hoy11⟩ := o_X7_count ey11
          refine sp_callVi (pc := 130) (z := M_X7_count) (As := [.int 0, .int 99, .int (-1)]) (b := v0) (bc2 := bc) (bs2 := bs) (m_X7_count (Q := _) (fun sz => ⟨r12, outT_e er12, ?_⟩) (rt_no er12) ey11) rfl dL_areKeysSo_130 hoy11 rfl rfl ck_L_areKeysSo_62 (Nat.le_of_ble_eq_true rfl) rfl rfl rfl
          refine sp_iload_n (pc := 133) dL_areKeysSo_133 4 rfl ?_
          refine sp_icmp_ne (pc := 134) (tgt := 167) dL_areKeysSo_134 (by decide) (fun c13 => ?_) (fun c13 => ?_)
          · rw [if_neg c13] at hf
            refine sp_iconst (pc := 167) (v := 0) dL_areKeysSo_167 (by decide) ?_
            exact sp_sub [1, 2, 0] rfl (w_L_areKeysSo_168 hQ hf)
          · rw [if_pos c13] at hf
            refine sp_aload_n (pc := 137) dL_areKeysSo_137 1 rfl ?_
            obtain ⟨y14, ey14, hf⟩ := ob hf
            obtain ⟨fsy14, hoy14⟩ := o_X7_hidden ey14
            refine sp_callVi (pc := 138) (z := M_X7_hidden) (As := []) (b := v0) (bc2 := bc) (bs2 := bs) (m_X7_hidden (Q := _) (fun sz => ⟨y14, rfl, ?_⟩) ey14) rfl dL_areKeysSo_138 hoy14 rfl rfl ck_L_areKeysSo_65 (Nat.le_of_ble_eq_true rfl) rfl rfl rfl
            refine sp_aload_n (pc := 141) dL_areKeysSo_141 1 rfl ?_
            refine sp_iconst (pc := 142) (v := 5) dL_areKeysSo_142 (by decide) ?_
            obtain ⟨y15, ey15, hf⟩ := ob hf
            obtain ⟨r16, er16, hf⟩ := ob hf
            obtain ⟨fsy15, hoy15⟩ := o_X7_about ey15
            refine sp_callVi (pc := 143) (z := M_X7_about) (As := [.int 5]) (b := v0) (bc2 := bc) (bs2 := bs) (m_X7_about (Q := _) (fun sz => ⟨r16, outT_e er16, ?_⟩) (rt_no er16) ey15) rfl dL_areKeysSo_143 hoy15 rfl rfl ck_L_areKeysSo_8 (Nat.le_of_ble_eq_true rfl) rfl rfl rfl
            refine sp_icmp_gt (pc := 146) (tgt := 167) dL_areKeysSo_146 (by decide) (fun c17 => ?_) (fun c17 => ?_)
            · rw [if_pos c17] at hf
              refine sp_iconst (pc := 167) (v := 0) dL_areKeysSo_167 (by decide) ?_
              exact sp_sub [1, 2, 0] rfl (w_L_areKeysSo_168 hQ hf)
            · rw [if_neg c17] at hf
              refine sp_aload_n (pc := 149) dL_areKeysSo_149 1 rfl ?_
              refine sp_iconst (pc := 150) (v := 5) dL_areKeysSo_150 (by decide) ?_
              obtain ⟨y18, ey18, hf⟩ := ob hf
              obtain ⟨r19, er19, hf⟩ := ob hf
              obtain ⟨fsy18, hoy18⟩ := o_X7_about ey18
              refine sp_callVi (pc := 151) (z := M_X7_about) (As := [.int 5]) (b := v0) (bc2 := bc) (bs2 := bs) (m_X7_about (Q := _) (fun sz => ⟨r19, outT_e er19, ?_⟩) (rt_no er19) ey18) rfl dL_areKeysSo_151 hoy18 rfl rfl ck_L_areKeysSo_8 (Nat.le_of_ble_eq_true rfl) rfl rfl rfl
              refine sp_aload_n (pc := 154) dL_areKeysSo_154 1 rfl ?_
              obtain ⟨y20, ey20, hf⟩ := ob hf
              obtain ⟨fsy20, hoy20⟩ := o_X7_hidden ey20
              refine sp_callVi (pc := 155) (z := M_X7_hidden) (As := []) (b := v0) (bc2 := bc) (bs2 := bs) (m_X7_hidden (Q := _) (fun sz => ⟨y20, rfl, ?_⟩) ey20) rfl dL_areKeysSo_155 hoy20 rfl rfl ck_L_areKeysSo_65 (Nat.le_of_ble_eq_true rfl) rfl rfl rfl
              refine sp_isub (pc := 158) dL_areKeysSo_158 ?_
              refine sp_iload_n (pc := 159) dL_areKeysSo_159 4 rfl ?_
              refine sp_icmp_lt (pc := 160) (tgt := 167) dL_areKeysSo_160 (by decide) (fun c21 => ?_) (fun c21 => ?_)
              · rw [if_pos c21] at hf
                refine sp_iconst (pc := 167) (v := 0) dL_areKeysSo_167 (by decide) ?_
                exact sp_sub [1, 2, 0] rfl (w_L_areKeysSo_168 hQ hf)
              · rw [if_neg c21] at hf
                refine sp_iconst (pc := 163) (v := 1) dL_areKeysSo_163 (by decide) ?_
                refine sp_goto (pc := 164) (tgt := 168) dL_areKeysSo_164 (by decide) ?_
                exact sp_sub [1, 2, 0] rfl (w_L_areKeysSo_168 hQ hf)
  · rw [if_neg c1] at hf
    refine sp_aload_n (pc := 17) dL_areKeysSo_17 0 rfl ?_
    refine sp_iload (pc := 18) dL_areKeysSo_18 5 rfl ?_
    refine sp_iconst (pc := 20) (v := (-1)) dL_areKeysSo_20 (by decide) ?_
    obtain ⟨y22, ey22, hf⟩ := ob hf
    obtain ⟨r23, er23, hf⟩ := ob hf
    obtain ⟨fsy22, hoy22⟩ := o_X7_get ey22
    refine sp_callVi (pc := 21) (z := M_X7_get) (As := [.int v5, .int (-1)]) (b := v0) (bc2 := bc) (bs2 := bs) (m_X7_get (Q := _) (fun sz => ⟨r23, outT_e er23, ?_⟩) (rt_no er23) ey22) rfl dL_areKeysSo_21 hoy22 rfl rfl ck_L_areKeysSo_46 (Nat.le_of_ble_eq_true rfl) rfl rfl rfl
    refine sp_istore (pc := 24) (lv' := [(6, .int r23), (0, .ref v0), (1, .int v1), (2, .int v2), (3, .int v3), (4, .int v4), (5, .int v5)]) dL_areKeysSo_24 (by decide) rfl ?_
    refine sp_iload_n (pc := 26) dL_areKeysSo_26 3 rfl ?_
    refine sp_iload (pc := 27) dL_areKeysSo_27 0 rfl ?_
    refine sp_if_ge (pc := 29) (tgt := 36) dL_areKeysSo_29 (by decide) (fun c24 => ?_) (fun c24 => ?_)
    · rw [if_pos c24] at hf
      refine sp_iload (pc := 36) dL_areKeysSo_36 0 rfl ?_
      exact sp_sub [1, 2, 4, 5, 6, 0] rfl (w_L_areKeysSo_38 hQ hk10 hf)
    · rw [if_neg c24] at hf
      refine sp_iconst (pc := 32) (v := 0) dL_areKeysSo_32 (by decide) ?_
      refine sp_goto (pc := 33) (tgt := 38) dL_areKeysSo_33 (by decide) ?_
      exact sp_sub [1, 2, 4, 5, 6, 0] rfl (w_L_areKeysSo_38 hQ hk10 hf)

theorem w_L_areKeysSo_10 {l : Launch} {X : SCR} {Q : PST} {bc bs : Nat} {res : Int32 × HP} (hQ : ∀ sz', Q (.inl (some (.int res.1))) res.2 sz') {v0 : Nat} {v1 : Int32} : ∀ (n : Nat) {h : HP} {v2 : Int32} {v3 : Int32} {v4 : Int32} {v5 : Int32} {sz : Nat}, b_L_areKeysSo_10 v0 v1 n h v2 v3 v4 v5 = some res → SP l X M_L_areKeysSo 10 [(0, .ref v0), (1, .int v1), (2, .int v2), (3, .int v3), (4, .int v4), (5, .int v5)] [] h sz bc bs Q := by
  intro n
  induction n with
  | zero =>
    intro h v2 v3 v4 v5 sz hf
    rw [b_L_areKeysSo_10] at hf
    cases hf
  | succ n ih =>
    intro h v2 v3 v4 v5 sz hf
    rw [b_L_areKeysSo_10] at hf
    exact wc_L_areKeysSo_10 hQ (fun h v2 v3 v4 v5 sz hf => ih hf) hf

theorem w_L_areKeysSo_0 {l : Launch} {X : SCR} {Q : PST} {bc bs : Nat} {res : Int32 × HP} {h : HP} (hQ : ∀ sz', Q (.inl (some (.int res.1))) res.2 sz') {v0 : Nat} {v1 : Int32} {sz : Nat} (hf : b_L_areKeysSo_0 v0 v1 h  = some res) : SP l X M_L_areKeysSo 0 [(0, .ref v0), (1, .int v1)] [] h sz bc bs Q := by
  rw [b_L_areKeysSo_0] at hf
  refine sp_iconst (pc := 0) (v := 0) dL_areKeysSo_0 (by decide) ?_
  refine sp_istore_n (pc := 1) (lv' := [(2, .int 0), (0, .ref v0), (1, .int v1)]) dL_areKeysSo_1 (by decide) rfl ?_
  refine sp_iconst (pc := 2) (v := 0) dL_areKeysSo_2 (by decide) ?_
  refine sp_istore_n (pc := 3) (lv' := [(3, .int 0), (2, .int 0), (0, .ref v0), (1, .int v1)]) dL_areKeysSo_3 (by decide) rfl ?_
  refine sp_iconst (pc := 4) (v := 1) dL_areKeysSo_4 (by decide) ?_
  refine sp_istore (pc := 5) (lv' := [(4, .int 1), (3, .int 0), (2, .int 0), (0, .ref v0), (1, .int v1)]) dL_areKeysSo_5 (by decide) rfl ?_
  refine sp_iconst (pc := 7) (v := 0) dL_areKeysSo_7 (by decide) ?_
  refine sp_istore (pc := 8) (lv' := [(5, .int 0), (4, .int 1), (3, .int 0), (2, .int 0), (0, .ref v0), (1, .int v1)]) dL_areKeysSo_8 (by decide) rfl ?_
  exact sp_sub [4, 5, 3, 2, 1, 0] rfl (w_L_areKeysSo_10 hQ FU hf)

theorem m_L_areKeysSo {l : Launch} {Q : PST} {h : HP} {v0 : Nat} {v1 : Int32} {sz : Nat} {res : Int32 × HP} (hQ : ∀ sz', Q (.inl (some (.int res.1))) res.2 sz') (hf : f_L_areKeysSo h v0 v1 = some res) : MM l M_L_areKeysSo [.ref v0, .int v1] h sz Q := by
  rw [f_L_areKeysSo] at hf
  exact MM_of wok_L_areKeysSo (by decide +kernel) (Nat.le_of_ble_eq_true rfl) ((w_L_areKeysSo_0 hQ hf))

theorem dL_isMergeSo_0 : decode (mB M_L_isMergeSo) 0 = .ok (.aload_n 0, 1) := by decide +kernel
theorem dL_isMergeSo_1 : decode (mB M_L_isMergeSo) 1 = .ok (.invokevirtual 36, 3) := by decide +kernel
theorem dL_isMergeSo_4 : decode (mB M_L_isMergeSo) 4 = .ok (.istore_n 2, 1) := by decide +kernel
theorem dL_isMergeSo_5 : decode (mB M_L_isMergeSo) 5 = .ok (.aload_n 0, 1) := by decide +kernel
theorem dL_isMergeSo_6 : decode (mB M_L_isMergeSo) 6 = .ok (.iconst 4, 1) := by decide +kernel
theorem dL_isMergeSo_7 : decode (mB M_L_isMergeSo) 7 = .ok (.invokevirtual 8, 3) := by decide +kernel
theorem dL_isMergeSo_10 : decode (mB M_L_isMergeSo) 10 = .ok (.istore_n 3, 1) := by decide +kernel
theorem dL_isMergeSo_11 : decode (mB M_L_isMergeSo) 11 = .ok (.aload_n 0, 1) := by decide +kernel
theorem dL_isMergeSo_12 : decode (mB M_L_isMergeSo) 12 = .ok (.bipush 8, 2) := by decide +kernel
theorem dL_isMergeSo_14 : decode (mB M_L_isMergeSo) 14 = .ok (.invokevirtual 8, 3) := by decide +kernel
theorem dL_isMergeSo_17 : decode (mB M_L_isMergeSo) 17 = .ok (.istore 4, 2) := by decide +kernel
theorem dL_isMergeSo_19 : decode (mB M_L_isMergeSo) 19 = .ok (.iload_n 2, 1) := by decide +kernel
theorem dL_isMergeSo_20 : decode (mB M_L_isMergeSo) 20 = .ok (.iconst (-1), 1) := by decide +kernel
theorem dL_isMergeSo_21 : decode (mB M_L_isMergeSo) 21 = .ok (.if_icmp .eq 14, 3) := by decide +kernel
theorem dL_isMergeSo_24 : decode (mB M_L_isMergeSo) 24 = .ok (.iload_n 1, 1) := by decide +kernel
theorem dL_isMergeSo_25 : decode (mB M_L_isMergeSo) 25 = .ok (.iconst 1, 1) := by decide +kernel
theorem dL_isMergeSo_26 : decode (mB M_L_isMergeSo) 26 = .ok (.iadd, 1) := by decide +kernel
theorem dL_isMergeSo_27 : decode (mB M_L_isMergeSo) 27 = .ok (.aload_n 0, 1) := by decide +kernel
theorem dL_isMergeSo_28 : decode (mB M_L_isMergeSo) 28 = .ok (.iconst 2, 1) := by decide +kernel
theorem dL_isMergeSo_29 : decode (mB M_L_isMergeSo) 29 = .ok (.invokevirtual 8, 3) := by decide +kernel
theorem dL_isMergeSo_32 : decode (mB M_L_isMergeSo) 32 = .ok (.if_icmp .lt 18, 3) := by decide +kernel
theorem dL_isMergeSo_35 : decode (mB M_L_isMergeSo) 35 = .ok (.iload_n 2, 1) := by decide +kernel
theorem dL_isMergeSo_36 : decode (mB M_L_isMergeSo) 36 = .ok (.aload_n 0, 1) := by decide +kernel
theorem dL_isMergeSo_37 : decode (mB M_L_isMergeSo) 37 = .ok (.iconst 2, 1) := by decide +kernel
theorem dL_isMergeSo_38 : decode (mB M_L_isMergeSo) 38 = .ok (.invokevirtual 8, 3) := by decide +kernel
theorem dL_isMergeSo_41 : decode (mB M_L_isMergeSo) 41 = .ok (.if_icmp .ge 7, 3) := by decide +kernel
theorem dL_isMergeSo_44 : decode (mB M_L_isMergeSo) 44 = .ok (.iconst 1, 1) := by decide +kernel
theorem dL_isMergeSo_45 : decode (mB M_L_isMergeSo) 45 = .ok (.goto 4, 3) := by decide +kernel
theorem dL_isMergeSo_48 : decode (mB M_L_isMergeSo) 48 = .ok (.iconst 0, 1) := by decide +kernel
theorem dL_isMergeSo_49 : decode (mB M_L_isMergeSo) 49 = .ok (.ireturn, 1) := by decide +kernel
theorem dL_isMergeSo_50 : decode (mB M_L_isMergeSo) 50 = .ok (.aload_n 0, 1) := by decide +kernel
theorem dL_isMergeSo_51 : decode (mB M_L_isMergeSo) 51 = .ok (.iload_n 2, 1) := by decide +kernel
theorem dL_isMergeSo_52 : decode (mB M_L_isMergeSo) 52 = .ok (.invokevirtual 68, 3) := by decide +kernel
theorem dL_isMergeSo_55 : decode (mB M_L_isMergeSo) 55 = .ok (.istore 5, 2) := by decide +kernel
theorem dL_isMergeSo_57 : decode (mB M_L_isMergeSo) 57 = .ok (.aload_n 0, 1) := by decide +kernel
theorem dL_isMergeSo_58 : decode (mB M_L_isMergeSo) 58 = .ok (.iconst (-1), 1) := by decide +kernel
theorem dL_isMergeSo_59 : decode (mB M_L_isMergeSo) 59 = .ok (.invokestatic 71, 3) := by decide +kernel
theorem dL_isMergeSo_62 : decode (mB M_L_isMergeSo) 62 = .ok (.lstore 6, 2) := by decide +kernel
theorem dL_isMergeSo_64 : decode (mB M_L_isMergeSo) 64 = .ok (.aload_n 0, 1) := by decide +kernel
theorem dL_isMergeSo_65 : decode (mB M_L_isMergeSo) 65 = .ok (.iconst 3, 1) := by decide +kernel
theorem dL_isMergeSo_66 : decode (mB M_L_isMergeSo) 66 = .ok (.invokevirtual 8, 3) := by decide +kernel
theorem dL_isMergeSo_69 : decode (mB M_L_isMergeSo) 69 = .ok (.ifCond .le 11, 3) := by decide +kernel
theorem dL_isMergeSo_72 : decode (mB M_L_isMergeSo) 72 = .ok (.aload_n 0, 1) := by decide +kernel
theorem dL_isMergeSo_73 : decode (mB M_L_isMergeSo) 73 = .ok (.iconst 0, 1) := by decide +kernel
theorem dL_isMergeSo_74 : decode (mB M_L_isMergeSo) 74 = .ok (.invokestatic 71, 3) := by decide +kernel
theorem dL_isMergeSo_77 : decode (mB M_L_isMergeSo) 77 = .ok (.goto 4, 3) := by decide +kernel
theorem dL_isMergeSo_80 : decode (mB M_L_isMergeSo) 80 = .ok (.lconst 0, 1) := by decide +kernel
theorem dL_isMergeSo_81 : decode (mB M_L_isMergeSo) 81 = .ok (.lstore 8, 2) := by decide +kernel
theorem dL_isMergeSo_83 : decode (mB M_L_isMergeSo) 83 = .ok (.aload_n 0, 1) := by decide +kernel
theorem dL_isMergeSo_84 : decode (mB M_L_isMergeSo) 84 = .ok (.iload_n 2, 1) := by decide +kernel
theorem dL_isMergeSo_85 : decode (mB M_L_isMergeSo) 85 = .ok (.invokevirtual 39, 3) := by decide +kernel
theorem dL_isMergeSo_88 : decode (mB M_L_isMergeSo) 88 = .ok (.istore 10, 2) := by decide +kernel
theorem dL_isMergeSo_90 : decode (mB M_L_isMergeSo) 90 = .ok (.aload_n 0, 1) := by decide +kernel
theorem dL_isMergeSo_91 : decode (mB M_L_isMergeSo) 91 = .ok (.iconst 4, 1) := by decide +kernel
theorem dL_isMergeSo_92 : decode (mB M_L_isMergeSo) 92 = .ok (.invokevirtual 8, 3) := by decide +kernel
theorem dL_isMergeSo_95 : decode (mB M_L_isMergeSo) 95 = .ok (.iload_n 3, 1) := by decide +kernel
theorem dL_isMergeSo_96 : decode (mB M_L_isMergeSo) 96 = .ok (.iload 5, 2) := by decide +kernel
theorem dL_isMergeSo_98 : decode (mB M_L_isMergeSo) 98 = .ok (.isub, 1) := by decide +kernel
theorem dL_isMergeSo_99 : decode (mB M_L_isMergeSo) 99 = .ok (.if_icmp .ne 56, 3) := by decide +kernel
theorem dL_isMergeSo_102 : decode (mB M_L_isMergeSo) 102 = .ok (.aload_n 0, 1) := by decide +kernel
theorem dL_isMergeSo_103 : decode (mB M_L_isMergeSo) 103 = .ok (.bipush 8, 2) := by decide +kernel
theorem dL_isMergeSo_105 : decode (mB M_L_isMergeSo) 105 = .ok (.invokevirtual 8, 3) := by decide +kernel
theorem dL_isMergeSo_108 : decode (mB M_L_isMergeSo) 108 = .ok (.iload 4, 2) := by decide +kernel
theorem dL_isMergeSo_110 : decode (mB M_L_isMergeSo) 110 = .ok (.iload 5, 2) := by decide +kernel
theorem dL_isMergeSo_112 : decode (mB M_L_isMergeSo) 112 = .ok (.iadd, 1) := by decide +kernel
theorem dL_isMergeSo_113 : decode (mB M_L_isMergeSo) 113 = .ok (.if_icmp .ne 42, 3) := by decide +kernel
theorem dL_isMergeSo_116 : decode (mB M_L_isMergeSo) 116 = .ok (.aload_n 0, 1) := by decide +kernel
theorem dL_isMergeSo_117 : decode (mB M_L_isMergeSo) 117 = .ok (.iconst (-1), 1) := by decide +kernel
theorem dL_isMergeSo_118 : decode (mB M_L_isMergeSo) 118 = .ok (.invokestatic 71, 3) := by decide +kernel
theorem dL_isMergeSo_121 : decode (mB M_L_isMergeSo) 121 = .ok (.lload 6, 2) := by decide +kernel
theorem dL_isMergeSo_123 : decode (mB M_L_isMergeSo) 123 = .ok (.lcmp, 1) := by decide +kernel
theorem dL_isMergeSo_124 : decode (mB M_L_isMergeSo) 124 = .ok (.ifCond .ne 31, 3) := by decide +kernel
theorem dL_isMergeSo_127 : decode (mB M_L_isMergeSo) 127 = .ok (.aload_n 0, 1) := by decide +kernel
theorem dL_isMergeSo_128 : decode (mB M_L_isMergeSo) 128 = .ok (.iconst 3, 1) := by decide +kernel
theorem dL_isMergeSo_129 : decode (mB M_L_isMergeSo) 129 = .ok (.invokevirtual 8, 3) := by decide +kernel
theorem dL_isMergeSo_132 : decode (mB M_L_isMergeSo) 132 = .ok (.ifCond .eq 14, 3) := by decide +kernel
theorem dL_isMergeSo_135 : decode (mB M_L_isMergeSo) 135 = .ok (.aload_n 0, 1) := by decide +kernel
theorem dL_isMergeSo_136 : decode (mB M_L_isMergeSo) 136 = .ok (.iconst 0, 1) := by decide +kernel
theorem dL_isMergeSo_137 : decode (mB M_L_isMergeSo) 137 = .ok (.invokestatic 71, 3) := by decide +kernel
theorem dL_isMergeSo_140 : decode (mB M_L_isMergeSo) 140 = .ok (.lload 8, 2) := by decide +kernel
theorem dL_isMergeSo_142 : decode (mB M_L_isMergeSo) 142 = .ok (.lcmp, 1) := by decide +kernel
theorem dL_isMergeSo_143 : decode (mB M_L_isMergeSo) 143 = .ok (.ifCond .ne 12, 3) := by decide +kernel
theorem dL_isMergeSo_146 : decode (mB M_L_isMergeSo) 146 = .ok (.iload 10, 2) := by decide +kernel
theorem dL_isMergeSo_148 : decode (mB M_L_isMergeSo) 148 = .ok (.ifCond .lt 7, 3) := by decide +kernel
theorem dL_isMergeSo_151 : decode (mB M_L_isMergeSo) 151 = .ok (.iconst 1, 1) := by decide +kernel
theorem dL_isMergeSo_152 : decode (mB M_L_isMergeSo) 152 = .ok (.goto 4, 3) := by decide +kernel
theorem dL_isMergeSo_155 : decode (mB M_L_isMergeSo) 155 = .ok (.iconst 0, 1) := by decide +kernel
theorem dL_isMergeSo_156 : decode (mB M_L_isMergeSo) 156 = .ok (.istore 11, 2) := by decide +kernel
theorem dL_isMergeSo_158 : decode (mB M_L_isMergeSo) 158 = .ok (.aload_n 0, 1) := by decide +kernel
theorem dL_isMergeSo_159 : decode (mB M_L_isMergeSo) 159 = .ok (.invokevirtual 75, 3) := by decide +kernel
theorem dL_isMergeSo_162 : decode (mB M_L_isMergeSo) 162 = .ok (.istore 12, 2) := by decide +kernel
theorem dL_isMergeSo_164 : decode (mB M_L_isMergeSo) 164 = .ok (.iload 11, 2) := by decide +kernel
theorem dL_isMergeSo_166 : decode (mB M_L_isMergeSo) 166 = .ok (.ifCond .eq 21, 3) := by decide +kernel
theorem dL_isMergeSo_169 : decode (mB M_L_isMergeSo) 169 = .ok (.iload 12, 2) := by decide +kernel
theorem dL_isMergeSo_171 : decode (mB M_L_isMergeSo) 171 = .ok (.ifCond .lt 16, 3) := by decide +kernel
theorem dL_isMergeSo_174 : decode (mB M_L_isMergeSo) 174 = .ok (.aload_n 0, 1) := by decide +kernel
theorem dL_isMergeSo_175 : decode (mB M_L_isMergeSo) 175 = .ok (.iconst 4, 1) := by decide +kernel
theorem dL_isMergeSo_176 : decode (mB M_L_isMergeSo) 176 = .ok (.invokevirtual 8, 3) := by decide +kernel
theorem dL_isMergeSo_179 : decode (mB M_L_isMergeSo) 179 = .ok (.iload_n 3, 1) := by decide +kernel
theorem dL_isMergeSo_180 : decode (mB M_L_isMergeSo) 180 = .ok (.if_icmp .ne 7, 3) := by decide +kernel
theorem dL_isMergeSo_183 : decode (mB M_L_isMergeSo) 183 = .ok (.iconst 1, 1) := by decide +kernel
theorem dL_isMergeSo_184 : decode (mB M_L_isMergeSo) 184 = .ok (.goto 4, 3) := by decide +kernel
theorem dL_isMergeSo_187 : decode (mB M_L_isMergeSo) 187 = .ok (.iconst 0, 1) := by decide +kernel
theorem dL_isMergeSo_188 : decode (mB M_L_isMergeSo) 188 = .ok (.ireturn, 1) := by decide +kernel
def b_L_isMergeSo_156 (v0 : Nat) (h : HP) (v3 : Int32) (s0 : Int32) : Option (Int32 × HP) :=
  (f_X7_undo h v0).bind fun y1 => (rt y1.1).bind fun r2 => if s0 = 0 then some (0, y1.2) else if r2 < 0 then some (0, y1.2) else (f_X7_about y1.2 v0 4).bind fun y5 => (rt y5.1).bind fun r6 => if r6 = v3 then some (1, y5.2) else some (0, y5.2)
def b_L_isMergeSo_146 (v0 : Nat) (h : HP) (v3 : Int32) (v10 : Int32) : Option (Int32 × HP) :=
  if v10 < 0 then b_L_isMergeSo_156 v0 h v3 0 else b_L_isMergeSo_156 v0 h v3 1
def b_L_isMergeSo_81 (v0 : Nat) (h : HP) (v2 : Int32) (v3 : Int32) (v4 : Int32) (v5 : Int32) (v6 : Int64) (s0 : Int64) : Option (Int32 × HP) :=
  (f_X7_merge h v0 v2).bind fun y1 => (rt y1.1).bind fun r2 => (f_X7_about y1.2 v0 4).bind fun y3 => (rt y3.1).bind fun r4 => if r4 = (v3 - v5) then (f_X7_about y3.2 v0 8).bind fun y6 => (rt y6.1).bind fun r7 => if r7 = (v4 + v5) then (f_L_tale y6.2 v0 (-1)).bind fun y9 => if (lg_cmp y9 v6) = 0 then (f_X7_about y6.2 v0 3).bind fun y11 => (rt y11.1).bind fun r12 => if r12 = 0 then b_L_isMergeSo_146 v0 y11.2 v3 r2 else (f_L_tale y11.2 v0 0).bind fun y14 => if (lg_cmp y14 s0) = 0 then b_L_isMergeSo_146 v0 y11.2 v3 r2 else b_L_isMergeSo_156 v0 y11.2 v3 0 else b_L_isMergeSo_156 v0 y6.2 v3 0 else b_L_isMergeSo_156 v0 y6.2 v3 0 else b_L_isMergeSo_156 v0 y3.2 v3 0
def b_L_isMergeSo_35 (v0 : Nat) (h : HP) (v2 : Int32) : Option (Int32 × HP) :=
  (f_X7_about h v0 2).bind fun y1 => (rt y1.1).bind fun r2 => if r2 ≤ v2 then some (0, y1.2) else some (1, y1.2)
def b_L_isMergeSo_0 (v0 : Nat) (v1 : Int32) (h : HP) : Option (Int32 × HP) :=
  (f_X7_best h v0).bind fun y1 => (f_X7_about y1.2 v0 4).bind fun y2 => (rt y2.1).bind fun r3 => (f_X7_about y2.2 v0 8).bind fun y4 => (rt y4.1).bind fun r5 => if y1.1 = (-1) then b_L_isMergeSo_35 v0 y4.2 y1.1 else (f_X7_about y4.2 v0 2).bind fun y7 => (rt y7.1).bind fun r8 => if (v1 + 1) < r8 then (f_X7_saves y7.2 v0 y1.1).bind fun y10 => (rt y10.1).bind fun r11 => (f_L_tale y10.2 v0 (-1)).bind fun y12 => (f_X7_about y10.2 v0 3).bind fun y13 => (rt y13.1).bind fun r14 => if r14 ≤ 0 then b_L_isMergeSo_81 v0 y13.2 y1.1 r3 r5 r11 y12 0 else (f_L_tale y13.2 v0 0).bind fun y16 => b_L_isMergeSo_81 v0 y13.2 y1.1 r3 r5 r11 y12 y16 else b_L_isMergeSo_35 v0 y7.2 y1.1
def f_L_isMergeSo (h : HP) (v0 : Nat) (v1 : Int32) : Option (Int32 × HP) := b_L_isMergeSo_0 v0 v1 h
theorem w_L_isMergeSo_156 {l : Launch} {X : SCR} {Q : PST} {bc bs : Nat} {res : Int32 × HP} {h : HP} (hQ : ∀ sz', Q (.inl (some (.int res.1))) res.2 sz') {v0 : Nat} {v3 : Int32} {s0 : Int32} {sz : Nat} (hf : b_L_isMergeSo_156 v0 h v3 s0 = some res) : SP l X M_L_isMergeSo 156 [(0, .ref v0), (3, .int v3)] [.int s0] h sz bc bs Q := by
  rw [b_L_isMergeSo_156] at hf
  refine sp_istore (pc := 156) (lv' := [(11, .int s0), (0, .ref v0), (3, .int v3)]) dL_isMergeSo_156 (by decide) rfl ?_
  refine sp_aload_n (pc := 158) dL_isMergeSo_158 1 rfl ?_
  obtain ⟨y1, ey1, hf⟩ := ob hf
  obtain ⟨r2, er2, hf⟩ := ob hf
  obtain ⟨fsy1, hoy1⟩ := o_X7_undo ey1
  refine sp_callVi (pc := 159) (z := M_X7_undo) (As := []) (b := v0) (bc2 := bc) (bs2 := bs) (m_X7_undo (Q := _) (fun sz => ⟨r2, outT_e er2, ?_⟩) (rt_no er2) ey1) rfl dL_isMergeSo_159 hoy1 rfl rfl ck_L_isMergeSo_75 (Nat.le_of_ble_eq_true rfl) rfl rfl rfl
  refine sp_istore (pc := 162) (lv' := [(12, .int r2), (11, .int s0), (0, .ref v0), (3, .int v3)]) dL_isMergeSo_162 (by decide) rfl ?_
  refine sp_iload (pc := 164) dL_isMergeSo_164 1 rfl ?_
  refine sp_if_eq (pc := 166) (tgt := 187) dL_isMergeSo_166 (by decide) (fun c3 => ?_) (fun c3 => ?_)
  · rw [if_pos c3] at hf
    refine sp_iconst (pc := 187) (v := 0) dL_isMergeSo_187 (by decide) ?_
    obtain rfl := Option.some.inj hf
    exact sp_ireturn (pc := 188) dL_isMergeSo_188 rfl rfl (hQ _)
  · rw [if_neg c3] at hf
    refine sp_iload (pc := 169) dL_isMergeSo_169 0 rfl ?_
    refine sp_if_lt (pc := 171) (tgt := 187) dL_isMergeSo_171 (by decide) (fun c4 => ?_) (fun c4 => ?_)
    · rw [if_pos c4] at hf
      refine sp_iconst (pc := 187) (v := 0) dL_isMergeSo_187 (by decide) ?_
      obtain rfl := Option.some.inj hf
      exact sp_ireturn (pc := 188) dL_isMergeSo_188 rfl rfl (hQ _)
    · rw [if_neg c4] at hf
      refine sp_aload_n (pc := 174) dL_isMergeSo_174 2 rfl ?_
      refine sp_iconst (pc := 175) (v := 4) dL_isMergeSo_175 (by decide) ?_
      obtain ⟨y5, ey5, hf⟩ := ob hf
      obtain ⟨r6, er6, hf⟩ := ob hf
      obtain ⟨fsy5, hoy5⟩ := o_X7_about ey5
      refine sp_callVi (pc := 176) (z := M_X7_about) (As := [.int 4]) (b := v0) (bc2 := bc) (bs2 := bs) (m_X7_about (Q := _) (fun sz => ⟨r6, outT_e er6, ?_⟩) (rt_no er6) ey5) rfl dL_isMergeSo_176 hoy5 rfl rfl ck_L_isMergeSo_8 (Nat.le_of_ble_eq_true rfl) rfl rfl rfl
      refine sp_iload_n (pc := 179) dL_isMergeSo_179 3 rfl ?_
      refine sp_icmp_ne (pc := 180) (tgt := 187) dL_isMergeSo_180 (by decide) (fun c7 => ?_) (fun c7 => ?_)
      · rw [if_neg c7] at hf
        refine sp_iconst (pc := 187) (v := 0) dL_isMergeSo_187 (by decide) ?_
        obtain rfl := Option.some.inj hf
        exact sp_ireturn (pc := 188) dL_isMergeSo_188 rfl rfl (hQ _)
      · rw [if_pos c7] at hf
        refine sp_iconst (pc := 183) (v := 1) dL_isMergeSo_183 (by decide) ?_
        refine sp_goto (pc := 184) (tgt := 188) dL_isMergeSo_184 (by decide) ?_
        obtain rfl := Option.some.inj hf
        exact sp_ireturn (pc := 188) dL_isMergeSo_188 rfl rfl (hQ _)

theorem w_L_isMergeSo_146 {l : Launch} {X : SCR} {Q : PST} {bc bs : Nat} {res : Int32 × HP} {h : HP} (hQ : ∀ sz', Q (.inl (some (.int res.1))) res.2 sz') {v0 : Nat} {v3 : Int32} {v10 : Int32} {sz : Nat} (hf : b_L_isMergeSo_146 v0 h v3 v10 = some res) : SP l X M_L_isMergeSo 146 [(0, .ref v0), (3, .int v3), (10, .int v10)] [] h sz bc bs Q := by
  rw [b_L_isMergeSo_146] at hf
  refine sp_iload (pc := 146) dL_isMergeSo_146 2 rfl ?_
  refine sp_if_lt (pc := 148) (tgt := 155) dL_isMergeSo_148 (by decide) (fun c1 => ?_) (fun c1 => ?_)
  · rw [if_pos c1] at hf
    refine sp_iconst (pc := 155) (v := 0) dL_isMergeSo_155 (by decide) ?_
    exact sp_sub [0, 1] rfl (w_L_isMergeSo_156 hQ hf)
  · rw [if_neg c1] at hf
    refine sp_iconst (pc := 151) (v := 1) dL_isMergeSo_151 (by decide) ?_
    refine sp_goto (pc := 152) (tgt := 156) dL_isMergeSo_152 (by decide) ?_
    exact sp_sub [0, 1] rfl (w_L_isMergeSo_156 hQ hf)

theorem w_L_isMergeSo_81 {l : Launch} {X : SCR} {Q : PST} {bc bs : Nat} {res : Int32 × HP} {h : HP} (hQ : ∀ sz', Q (.inl (some (.int res.1))) res.2 sz') {v0 : Nat} {v2 : Int32} {v3 : Int32} {v4 : Int32} {v5 : Int32} {v6 : Int64} {s0 : Int64} {sz : Nat} (hf : b_L_isMergeSo_81 v0 h v2 v3 v4 v5 v6 s0 = some res) : SP l X M_L_isMergeSo 81 [(0, .ref v0), (2, .int v2), (3, .int v3), (4, .int v4), (5, .int v5), (6, .long v6)] [.long s0] h sz bc bs Q := by
  rw [b_L_isMergeSo_81] at hf
  refine sp_lstore (pc := 81) (lv' := [(8, .long s0), (0, .ref v0), (2, .int v2), (3, .int v3), (4, .int v4), (5, .int v5), (6, .long v6)]) dL_isMergeSo_81 (by decide) rfl ?_
  refine sp_aload_n (pc := 83) dL_isMergeSo_83 1 rfl ?_
  refine sp_iload_n (pc := 84) dL_isMergeSo_84 2 rfl ?_
  obtain ⟨y1, ey1, hf⟩ := ob hf
  obtain ⟨r2, er2, hf⟩ := ob hf
  obtain ⟨fsy1, hoy1⟩ := o_X7_merge ey1
  refine sp_callVi (pc := 85) (z := M_X7_merge) (As := [.int v2]) (b := v0) (bc2 := bc) (bs2 := bs) (m_X7_merge (Q := _) (fun sz => ⟨r2, outT_e er2, ?_⟩) (rt_no er2) ey1) rfl dL_isMergeSo_85 hoy1 rfl rfl ck_L_isMergeSo_39 (Nat.le_of_ble_eq_true rfl) rfl rfl rfl
  refine sp_istore (pc := 88) (lv' := [(10, .int r2), (8, .long s0), (0, .ref v0), (2, .int v2), (3, .int v3), (4, .int v4), (5, .int v5), (6, .long v6)]) dL_isMergeSo_88 (by decide) rfl ?_
  refine sp_aload_n (pc := 90) dL_isMergeSo_90 2 rfl ?_
  refine sp_iconst (pc := 91) (v := 4) dL_isMergeSo_91 (by decide) ?_
  obtain ⟨y3, ey3, hf⟩ := ob hf
  obtain ⟨r4, er4, hf⟩ := ob hf
  obtain ⟨fsy3, hoy3⟩ := o_X7_about ey3
  refine sp_callVi (pc := 92) (z := M_X7_about) (As := [.int 4]) (b := v0) (bc2 := bc) (bs2 := bs) (m_X7_about (Q := _) (fun sz => ⟨r4, outT_e er4, ?_⟩) (rt_no er4) ey3) rfl dL_isMergeSo_92 hoy3 rfl rfl ck_L_isMergeSo_8 (Nat.le_of_ble_eq_true rfl) rfl rfl rfl
  refine sp_iload_n (pc := 95) dL_isMergeSo_95 4 rfl ?_
  refine sp_iload (pc := 96) dL_isMergeSo_96 6 rfl ?_
  refine sp_isub (pc := 98) dL_isMergeSo_98 ?_
  refine sp_icmp_ne (pc := 99) (tgt := 155) dL_isMergeSo_99 (by decide) (fun c5 => ?_) (fun c5 => ?_)
  · rw [if_neg c5] at hf
    refine sp_iconst (pc := 155) (v := 0) dL_isMergeSo_155 (by decide) ?_
    exact sp_sub [2, 4] rfl (w_L_isMergeSo_156 hQ hf)
  · rw [if_pos c5] at hf
    refine sp_aload_n (pc := 102) dL_isMergeSo_102 2 rfl ?_
    refine sp_bipush (pc := 103) (v := 8) dL_isMergeSo_103 (by decide) ?_
    obtain ⟨y6, ey6, hf⟩ := ob hf
    obtain ⟨r7, er7, hf⟩ := ob hf
    obtain ⟨fsy6, hoy6⟩ := o_X7_about ey6
    refine sp_callVi (pc := 105) (z := M_X7_about) (As := [.int 8]) (b := v0) (bc2 := bc) (bs2 := bs) (m_X7_about (Q := _) (fun sz => ⟨r7, outT_e er7, ?_⟩) (rt_no er7) ey6) rfl dL_isMergeSo_105 hoy6 rfl rfl ck_L_isMergeSo_8 (Nat.le_of_ble_eq_true rfl) rfl rfl rfl
    refine sp_iload (pc := 108) dL_isMergeSo_108 5 rfl ?_
    refine sp_iload (pc := 110) dL_isMergeSo_110 6 rfl ?_
    refine sp_iadd (pc := 112) dL_isMergeSo_112 ?_
    refine sp_icmp_ne (pc := 113) (tgt := 155) dL_isMergeSo_113 (by decide) (fun c8 => ?_) (fun c8 => ?_)
    · rw [if_neg c8] at hf
      refine sp_iconst (pc := 155) (v := 0) dL_isMergeSo_155 (by decide) ?_
      exact sp_sub [2, 4] rfl (w_L_isMergeSo_156 hQ hf)
    · rw [if_pos c8] at hf
      refine sp_aload_n (pc := 116) dL_isMergeSo_116 2 rfl ?_
      refine sp_iconst (pc := 117) (v := (-1)) dL_isMergeSo_117 (by decide) ?_
      obtain ⟨y9, ey9, hf⟩ := ob hf
      refine sp_callSl (pc := 118) (z := M_L_tale) (As := [.ref v0, .int (-1)]) (bc2 := bc) (bs2 := bs) (m_L_tale (Q := _) (fun sz => ⟨y9, rfl, ?_⟩) ey9) rfl dL_isMergeSo_118 rfl ck_L_isMergeSo_71 (Nat.le_of_ble_eq_true rfl) rfl rfl rfl
      refine sp_lload (pc := 121) dL_isMergeSo_121 7 rfl ?_
      refine sp_lcmp (pc := 123) dL_isMergeSo_123 ?_
      refine sp_if_ne (pc := 124) (tgt := 155) dL_isMergeSo_124 (by decide) (fun c10 => ?_) (fun c10 => ?_)
      · rw [if_neg c10] at hf
        refine sp_iconst (pc := 155) (v := 0) dL_isMergeSo_155 (by decide) ?_
        exact sp_sub [2, 4] rfl (w_L_isMergeSo_156 hQ hf)
      · rw [if_pos c10] at hf
        refine sp_aload_n (pc := 127) dL_isMergeSo_127 2 rfl ?_
        refine sp_iconst (pc := 128) (v := 3) dL_isMergeSo_128 (by decide) ?_
        obtain ⟨y11, ey11, hf⟩ := ob hf
        obtain ⟨r12, er12, hf⟩ := ob hf
        obtain ⟨fsy11, hoy11⟩ := o_X7_about ey11
        refine sp_callVi (pc := 129) (z := M_X7_about) (As := [.int 3]) (b := v0) (bc2 := bc) (bs2 := bs) (m_X7_about (Q := _) (fun sz => ⟨r12, outT_e er12, ?_⟩) (rt_no er12) ey11) rfl dL_isMergeSo_129 hoy11 rfl rfl ck_L_isMergeSo_8 (Nat.le_of_ble_eq_true rfl) rfl rfl rfl
        refine sp_if_eq (pc := 132) (tgt := 146) dL_isMergeSo_132 (by decide) (fun c13 => ?_) (fun c13 => ?_)
        · rw [if_pos c13] at hf
          exact sp_sub [2, 4, 0] rfl (w_L_isMergeSo_146 hQ hf)
        · rw [if_neg c13] at hf
          refine sp_aload_n (pc := 135) dL_isMergeSo_135 2 rfl ?_
          refine sp_iconst (pc := 136) (v := 0) dL_isMergeSo_136 (by decide) ?_
          obtain ⟨y14, ey14, hf⟩ := ob hf
          refine sp_callSl (pc := 137) (z := M_L_tale) (As := [.ref v0, .int 0]) (bc2 := bc) (bs2 := bs) (m_L_tale (Q := _) (fun sz => ⟨y14, rfl, ?_⟩) ey14) rfl dL_isMergeSo_137 rfl ck_L_isMergeSo_71 (Nat.le_of_ble_eq_true rfl) rfl rfl rfl
          refine sp_lload (pc := 140) dL_isMergeSo_140 1 rfl ?_
          refine sp_lcmp (pc := 142) dL_isMergeSo_142 ?_
          refine sp_if_ne (pc := 143) (tgt := 155) dL_isMergeSo_143 (by decide) (fun c15 => ?_) (fun c15 => ?_)
          · rw [if_neg c15] at hf
            refine sp_iconst (pc := 155) (v := 0) dL_isMergeSo_155 (by decide) ?_
            exact sp_sub [2, 4] rfl (w_L_isMergeSo_156 hQ hf)
          · rw [if_pos c15] at hf
            exact sp_sub [2, 4, 0] rfl (w_L_isMergeSo_146 hQ hf)

theorem w_L_isMergeSo_35 {l : Launch} {X : SCR} {Q : PST} {bc bs : Nat} {res : Int32 × HP} {h : HP} (hQ : ∀ sz', Q (.inl (some (.int res.1))) res.2 sz') {v0 : Nat} {v2 : Int32} {sz : Nat} (hf : b_L_isMergeSo_35 v0 h v2 = some res) : SP l X M_L_isMergeSo 35 [(0, .ref v0), (2, .int v2)] [] h sz bc bs Q := by
  rw [b_L_isMergeSo_35] at hf
  refine sp_iload_n (pc := 35) dL_isMergeSo_35 1 rfl ?_
  refine sp_aload_n (pc := 36) dL_isMergeSo_36 0 rfl ?_
  refine sp_iconst (pc := 37) (v := 2) dL_isMergeSo_37 (by decide) ?_
  obtain ⟨y1, ey1, hf⟩ := ob hf
  obtain ⟨r2, er2, hf⟩ := ob hf
  obtain ⟨fsy1, hoy1⟩ := o_X7_about ey1
  refine sp_callVi (pc := 38) (z := M_X7_about) (As := [.int 2]) (b := v0) (bc2 := bc) (bs2 := bs) (m_X7_about (Q := _) (fun sz => ⟨r2, outT_e er2, ?_⟩) (rt_no er2) ey1) rfl dL_isMergeSo_38 hoy1 rfl rfl ck_L_isMergeSo_8 (Nat.le_of_ble_eq_true rfl) rfl rfl rfl
  refine sp_icmp_ge (pc := 41) (tgt := 48) dL_isMergeSo_41 (by decide) (fun c3 => ?_) (fun c3 => ?_)
  · rw [if_pos c3] at hf
    refine sp_iconst (pc := 48) (v := 0) dL_isMergeSo_48 (by decide) ?_
    obtain rfl := Option.some.inj hf
    exact sp_ireturn (pc := 49) dL_isMergeSo_49 rfl rfl (hQ _)
  · rw [if_neg c3] at hf
    refine sp_iconst (pc := 44) (v := 1) dL_isMergeSo_44 (by decide) ?_
    refine sp_goto (pc := 45) (tgt := 49) dL_isMergeSo_45 (by decide) ?_
    obtain rfl := Option.some.inj hf
    exact sp_ireturn (pc := 49) dL_isMergeSo_49 rfl rfl (hQ _)

theorem w_L_isMergeSo_0 {l : Launch} {X : SCR} {Q : PST} {bc bs : Nat} {res : Int32 × HP} {h : HP} (hQ : ∀ sz', Q (.inl (some (.int res.1))) res.2 sz') {v0 : Nat} {v1 : Int32} {sz : Nat} (hf : b_L_isMergeSo_0 v0 v1 h  = some res) : SP l X M_L_isMergeSo 0 [(0, .ref v0), (1, .int v1)] [] h sz bc bs Q := by
  rw [b_L_isMergeSo_0] at hf
  refine sp_aload_n (pc := 0) dL_isMergeSo_0 0 rfl ?_
  obtain ⟨y1, ey1, hf⟩ := ob hf
  obtain ⟨fsy1, hoy1⟩ := o_X7_best ey1
  refine sp_callVi (pc := 1) (z := M_X7_best) (As := []) (b := v0) (bc2 := bc) (bs2 := bs) (m_X7_best (Q := _) (fun sz => ⟨y1.1, rfl, ?_⟩) ey1) rfl dL_isMergeSo_1 hoy1 rfl rfl ck_L_isMergeSo_36 (Nat.le_of_ble_eq_true rfl) rfl rfl rfl
  refine sp_istore_n (pc := 4) (lv' := [(2, .int y1.1), (0, .ref v0), (1, .int v1)]) dL_isMergeSo_4 (by decide) rfl ?_
  refine sp_aload_n (pc := 5) dL_isMergeSo_5 1 rfl ?_
  refine sp_iconst (pc := 6) (v := 4) dL_isMergeSo_6 (by decide) ?_
  obtain ⟨y2, ey2, hf⟩ := ob hf
  obtain ⟨r3, er3, hf⟩ := ob hf
  obtain ⟨fsy2, hoy2⟩ := o_X7_about ey2
  refine sp_callVi (pc := 7) (z := M_X7_about) (As := [.int 4]) (b := v0) (bc2 := bc) (bs2 := bs) (m_X7_about (Q := _) (fun sz => ⟨r3, outT_e er3, ?_⟩) (rt_no er3) ey2) rfl dL_isMergeSo_7 hoy2 rfl rfl ck_L_isMergeSo_8 (Nat.le_of_ble_eq_true rfl) rfl rfl rfl
  refine sp_istore_n (pc := 10) (lv' := [(3, .int r3), (2, .int y1.1), (0, .ref v0), (1, .int v1)]) dL_isMergeSo_10 (by decide) rfl ?_
  refine sp_aload_n (pc := 11) dL_isMergeSo_11 2 rfl ?_
  refine sp_bipush (pc := 12) (v := 8) dL_isMergeSo_12 (by decide) ?_
  obtain ⟨y4, ey4, hf⟩ := ob hf
  obtain ⟨r5, er5, hf⟩ := ob hf
  obtain ⟨fsy4, hoy4⟩ := o_X7_about ey4
  refine sp_callVi (pc := 14) (z := M_X7_about) (As := [.int 8]) (b := v0) (bc2 := bc) (bs2 := bs) (m_X7_about (Q := _) (fun sz => ⟨r5, outT_e er5, ?_⟩) (rt_no er5) ey4) rfl dL_isMergeSo_14 hoy4 rfl rfl ck_L_isMergeSo_8 (Nat.le_of_ble_eq_true rfl) rfl rfl rfl
  refine sp_istore (pc := 17) (lv' := [(4, .int r5), (3, .int r3), (2, .int y1.1), (0, .ref v0), (1, .int v1)]) dL_isMergeSo_17 (by decide) rfl ?_
  refine sp_iload_n (pc := 19) dL_isMergeSo_19 2 rfl ?_
  refine sp_iconst (pc := 20) (v := (-1)) dL_isMergeSo_20 (by decide) ?_
  refine sp_icmp_eq (pc := 21) (tgt := 35) dL_isMergeSo_21 (by decide) (fun c6 => ?_) (fun c6 => ?_)
  · rw [if_pos c6] at hf
    exact sp_sub [3, 2] rfl (w_L_isMergeSo_35 hQ hf)
  · rw [if_neg c6] at hf
    refine sp_iload_n (pc := 24) dL_isMergeSo_24 4 rfl ?_
    refine sp_iconst (pc := 25) (v := 1) dL_isMergeSo_25 (by decide) ?_
    refine sp_iadd (pc := 26) dL_isMergeSo_26 ?_
    refine sp_aload_n (pc := 27) dL_isMergeSo_27 3 rfl ?_
    refine sp_iconst (pc := 28) (v := 2) dL_isMergeSo_28 (by decide) ?_
    obtain ⟨y7, ey7, hf⟩ := ob hf
    obtain ⟨r8, er8, hf⟩ := ob hf
    obtain ⟨fsy7, hoy7⟩ := o_X7_about ey7
    refine sp_callVi (pc := 29) (z := M_X7_about) (As := [.int 2]) (b := v0) (bc2 := bc) (bs2 := bs) (m_X7_about (Q := _) (fun sz => ⟨r8, outT_e er8, ?_⟩) (rt_no er8) ey7) rfl dL_isMergeSo_29 hoy7 rfl rfl ck_L_isMergeSo_8 (Nat.le_of_ble_eq_true rfl) rfl rfl rfl
    refine sp_icmp_lt (pc := 32) (tgt := 50) dL_isMergeSo_32 (by decide) (fun c9 => ?_) (fun c9 => ?_)
    · rw [if_pos c9] at hf
      refine sp_aload_n (pc := 50) dL_isMergeSo_50 3 rfl ?_
      refine sp_iload_n (pc := 51) dL_isMergeSo_51 2 rfl ?_
      obtain ⟨y10, ey10, hf⟩ := ob hf
      obtain ⟨r11, er11, hf⟩ := ob hf
      obtain ⟨fsy10, hoy10⟩ := o_X7_saves ey10
      refine sp_callVi (pc := 52) (z := M_X7_saves) (As := [.int y1.1]) (b := v0) (bc2 := bc) (bs2 := bs) (m_X7_saves (Q := _) (fun sz => ⟨r11, outT_e er11, ?_⟩) (rt_no er11) ey10) rfl dL_isMergeSo_52 hoy10 rfl rfl ck_L_isMergeSo_68 (Nat.le_of_ble_eq_true rfl) rfl rfl rfl
      refine sp_istore (pc := 55) (lv' := [(5, .int r11), (4, .int r5), (3, .int r3), (2, .int y1.1), (0, .ref v0), (1, .int v1)]) dL_isMergeSo_55 (by decide) rfl ?_
      refine sp_aload_n (pc := 57) dL_isMergeSo_57 4 rfl ?_
      refine sp_iconst (pc := 58) (v := (-1)) dL_isMergeSo_58 (by decide) ?_
      obtain ⟨y12, ey12, hf⟩ := ob hf
      refine sp_callSl (pc := 59) (z := M_L_tale) (As := [.ref v0, .int (-1)]) (bc2 := bc) (bs2 := bs) (m_L_tale (Q := _) (fun sz => ⟨y12, rfl, ?_⟩) ey12) rfl dL_isMergeSo_59 rfl ck_L_isMergeSo_71 (Nat.le_of_ble_eq_true rfl) rfl rfl rfl
      refine sp_lstore (pc := 62) (lv' := [(6, .long y12), (5, .int r11), (4, .int r5), (3, .int r3), (2, .int y1.1), (0, .ref v0), (1, .int v1)]) dL_isMergeSo_62 (by decide) rfl ?_
      refine sp_aload_n (pc := 64) dL_isMergeSo_64 5 rfl ?_
      refine sp_iconst (pc := 65) (v := 3) dL_isMergeSo_65 (by decide) ?_
      obtain ⟨y13, ey13, hf⟩ := ob hf
      obtain ⟨r14, er14, hf⟩ := ob hf
      obtain ⟨fsy13, hoy13⟩ := o_X7_about ey13
      refine sp_callVi (pc := 66) (z := M_X7_about) (As := [.int 3]) (b := v0) (bc2 := bc) (bs2 := bs) (m_X7_about (Q := _) (fun sz => ⟨r14, outT_e er14, ?_⟩) (rt_no er14) ey13) rfl dL_isMergeSo_66 hoy13 rfl rfl ck_L_isMergeSo_8 (Nat.le_of_ble_eq_true rfl) rfl rfl rfl
      refine sp_if_le (pc := 69) (tgt := 80) dL_isMergeSo_69 (by decide) (fun c15 => ?_) (fun c15 => ?_)
      · rw [if_pos c15] at hf
        refine sp_lconst (pc := 80) (v := 0) dL_isMergeSo_80 (by decide) ?_
        exact sp_sub [5, 4, 3, 2, 1, 0] rfl (w_L_isMergeSo_81 hQ hf)
      · rw [if_neg c15] at hf
        refine sp_aload_n (pc := 72) dL_isMergeSo_72 5 rfl ?_
        refine sp_iconst (pc := 73) (v := 0) dL_isMergeSo_73 (by decide) ?_
        obtain ⟨y16, ey16, hf⟩ := ob hf
        refine sp_callSl (pc := 74) (z := M_L_tale) (As := [.ref v0, .int 0]) (bc2 := bc) (bs2 := bs) (m_L_tale (Q := _) (fun sz => ⟨y16, rfl, ?_⟩) ey16) rfl dL_isMergeSo_74 rfl ck_L_isMergeSo_71 (Nat.le_of_ble_eq_true rfl) rfl rfl rfl
        refine sp_goto (pc := 77) (tgt := 81) dL_isMergeSo_77 (by decide) ?_
        exact sp_sub [5, 4, 3, 2, 1, 0] rfl (w_L_isMergeSo_81 hQ hf)
    · rw [if_neg c9] at hf
      exact sp_sub [3, 2] rfl (w_L_isMergeSo_35 hQ hf)

theorem m_L_isMergeSo {l : Launch} {Q : PST} {h : HP} {v0 : Nat} {v1 : Int32} {sz : Nat} {res : Int32 × HP} (hQ : ∀ sz', Q (.inl (some (.int res.1))) res.2 sz') (hf : f_L_isMergeSo h v0 v1 = some res) : MM l M_L_isMergeSo [.ref v0, .int v1] h sz Q := by
  rw [f_L_isMergeSo] at hf
  exact MM_of wok_L_isMergeSo (by decide +kernel) (Nat.le_of_ble_eq_true rfl) ((w_L_isMergeSo_0 hQ hf))

theorem dL_law_0 : decode (mB M_L_law) 0 = .ok (.new 9, 3) := by decide +kernel
theorem dL_law_3 : decode (mB M_L_law) 3 = .ok (.dup, 1) := by decide +kernel
theorem dL_law_4 : decode (mB M_L_law) 4 = .ok (.invokespecial 78, 3) := by decide +kernel
theorem dL_law_7 : decode (mB M_L_law) 7 = .ok (.astore_n 1, 1) := by decide +kernel
theorem dL_law_8 : decode (mB M_L_law) 8 = .ok (.iconst 0, 1) := by decide +kernel
theorem dL_law_9 : decode (mB M_L_law) 9 = .ok (.istore_n 2, 1) := by decide +kernel
theorem dL_law_10 : decode (mB M_L_law) 10 = .ok (.iload_n 2, 1) := by decide +kernel
theorem dL_law_11 : decode (mB M_L_law) 11 = .ok (.bipush 60, 2) := by decide +kernel
theorem dL_law_13 : decode (mB M_L_law) 13 = .ok (.if_icmp .ge 248, 3) := by decide +kernel
theorem dL_law_16 : decode (mB M_L_law) 16 = .ok (.aload_n 0, 1) := by decide +kernel
theorem dL_law_17 : decode (mB M_L_law) 17 = .ok (.iload_n 2, 1) := by decide +kernel
theorem dL_law_18 : decode (mB M_L_law) 18 = .ok (.invokestatic 79, 3) := by decide +kernel
theorem dL_law_21 : decode (mB M_L_law) 21 = .ok (.istore_n 3, 1) := by decide +kernel
theorem dL_law_22 : decode (mB M_L_law) 22 = .ok (.iload_n 3, 1) := by decide +kernel
theorem dL_law_23 : decode (mB M_L_law) 23 = .ok (.bipush 15, 2) := by decide +kernel
theorem dL_law_25 : decode (mB M_L_law) 25 = .ok (.iand, 1) := by decide +kernel
theorem dL_law_26 : decode (mB M_L_law) 26 = .ok (.istore 4, 2) := by decide +kernel
theorem dL_law_28 : decode (mB M_L_law) 28 = .ok (.aload_n 1, 1) := by decide +kernel
theorem dL_law_29 : decode (mB M_L_law) 29 = .ok (.iconst 4, 1) := by decide +kernel
theorem dL_law_30 : decode (mB M_L_law) 30 = .ok (.invokevirtual 8, 3) := by decide +kernel
theorem dL_law_33 : decode (mB M_L_law) 33 = .ok (.istore 5, 2) := by decide +kernel
theorem dL_law_35 : decode (mB M_L_law) 35 = .ok (.aload_n 1, 1) := by decide +kernel
theorem dL_law_36 : decode (mB M_L_law) 36 = .ok (.iconst 0, 1) := by decide +kernel
theorem dL_law_37 : decode (mB M_L_law) 37 = .ok (.invokevirtual 8, 3) := by decide +kernel
theorem dL_law_40 : decode (mB M_L_law) 40 = .ok (.istore 6, 2) := by decide +kernel
theorem dL_law_42 : decode (mB M_L_law) 42 = .ok (.aload_n 1, 1) := by decide +kernel
theorem dL_law_43 : decode (mB M_L_law) 43 = .ok (.iconst 3, 1) := by decide +kernel
theorem dL_law_44 : decode (mB M_L_law) 44 = .ok (.invokevirtual 8, 3) := by decide +kernel
theorem dL_law_47 : decode (mB M_L_law) 47 = .ok (.istore 7, 2) := by decide +kernel
theorem dL_law_49 : decode (mB M_L_law) 49 = .ok (.aload_n 1, 1) := by decide +kernel
theorem dL_law_50 : decode (mB M_L_law) 50 = .ok (.iconst (-1), 1) := by decide +kernel
theorem dL_law_51 : decode (mB M_L_law) 51 = .ok (.invokestatic 71, 3) := by decide +kernel
theorem dL_law_54 : decode (mB M_L_law) 54 = .ok (.lstore 8, 2) := by decide +kernel
theorem dL_law_56 : decode (mB M_L_law) 56 = .ok (.iload 7, 2) := by decide +kernel
theorem dL_law_58 : decode (mB M_L_law) 58 = .ok (.ifCond .le 11, 3) := by decide +kernel
theorem dL_law_61 : decode (mB M_L_law) 61 = .ok (.aload_n 1, 1) := by decide +kernel
theorem dL_law_62 : decode (mB M_L_law) 62 = .ok (.iconst 0, 1) := by decide +kernel
theorem dL_law_63 : decode (mB M_L_law) 63 = .ok (.invokestatic 71, 3) := by decide +kernel
theorem dL_law_66 : decode (mB M_L_law) 66 = .ok (.goto 4, 3) := by decide +kernel
theorem dL_law_69 : decode (mB M_L_law) 69 = .ok (.lconst 0, 1) := by decide +kernel
theorem dL_law_70 : decode (mB M_L_law) 70 = .ok (.lstore 10, 2) := by decide +kernel
theorem dL_law_72 : decode (mB M_L_law) 72 = .ok (.aload_n 1, 1) := by decide +kernel
theorem dL_law_73 : decode (mB M_L_law) 73 = .ok (.iload_n 3, 1) := by decide +kernel
theorem dL_law_74 : decode (mB M_L_law) 74 = .ok (.invokestatic 83, 3) := by decide +kernel
theorem dL_law_77 : decode (mB M_L_law) 77 = .ok (.istore 12, 2) := by decide +kernel
theorem dL_law_79 : decode (mB M_L_law) 79 = .ok (.aload_n 1, 1) := by decide +kernel
theorem dL_law_80 : decode (mB M_L_law) 80 = .ok (.iconst 0, 1) := by decide +kernel
theorem dL_law_81 : decode (mB M_L_law) 81 = .ok (.invokevirtual 8, 3) := by decide +kernel
theorem dL_law_84 : decode (mB M_L_law) 84 = .ok (.iload 6, 2) := by decide +kernel
theorem dL_law_86 : decode (mB M_L_law) 86 = .ok (.if_icmp .le 7, 3) := by decide +kernel
theorem dL_law_89 : decode (mB M_L_law) 89 = .ok (.iconst 1, 1) := by decide +kernel
theorem dL_law_90 : decode (mB M_L_law) 90 = .ok (.goto 4, 3) := by decide +kernel
theorem dL_law_93 : decode (mB M_L_law) 93 = .ok (.iconst 0, 1) := by decide +kernel
theorem dL_law_94 : decode (mB M_L_law) 94 = .ok (.istore 13, 2) := by decide +kernel
theorem dL_law_96 : decode (mB M_L_law) 96 = .ok (.iload 12, 2) := by decide +kernel
theorem dL_law_98 : decode (mB M_L_law) 98 = .ok (.ifCond .lt 82, 3) := by decide +kernel
theorem dL_law_101 : decode (mB M_L_law) 101 = .ok (.iload 13, 2) := by decide +kernel
theorem dL_law_103 : decode (mB M_L_law) 103 = .ok (.ifCond .ne 14, 3) := by decide +kernel
theorem dL_law_106 : decode (mB M_L_law) 106 = .ok (.aload_n 1, 1) := by decide +kernel
theorem dL_law_107 : decode (mB M_L_law) 107 = .ok (.iconst (-1), 1) := by decide +kernel
theorem dL_law_108 : decode (mB M_L_law) 108 = .ok (.invokestatic 71, 3) := by decide +kernel
theorem dL_law_111 : decode (mB M_L_law) 111 = .ok (.lload 8, 2) := by decide +kernel
theorem dL_law_113 : decode (mB M_L_law) 113 = .ok (.lcmp, 1) := by decide +kernel
theorem dL_law_114 : decode (mB M_L_law) 114 = .ok (.ifCond .ne 66, 3) := by decide +kernel
theorem dL_law_117 : decode (mB M_L_law) 117 = .ok (.iload 4, 2) := by decide +kernel
theorem dL_law_119 : decode (mB M_L_law) 119 = .ok (.bipush 11, 2) := by decide +kernel
theorem dL_law_121 : decode (mB M_L_law) 121 = .ok (.if_icmp .eq 26, 3) := by decide +kernel
theorem dL_law_124 : decode (mB M_L_law) 124 = .ok (.iload 4, 2) := by decide +kernel
theorem dL_law_126 : decode (mB M_L_law) 126 = .ok (.bipush 12, 2) := by decide +kernel
theorem dL_law_128 : decode (mB M_L_law) 128 = .ok (.if_icmp .eq 19, 3) := by decide +kernel
theorem dL_law_131 : decode (mB M_L_law) 131 = .ok (.iload 7, 2) := by decide +kernel
theorem dL_law_133 : decode (mB M_L_law) 133 = .ok (.ifCond .eq 14, 3) := by decide +kernel
theorem dL_law_136 : decode (mB M_L_law) 136 = .ok (.aload_n 1, 1) := by decide +kernel
theorem dL_law_137 : decode (mB M_L_law) 137 = .ok (.iconst 0, 1) := by decide +kernel
theorem dL_law_138 : decode (mB M_L_law) 138 = .ok (.invokestatic 71, 3) := by decide +kernel
theorem dL_law_141 : decode (mB M_L_law) 141 = .ok (.lload 10, 2) := by decide +kernel
theorem dL_law_143 : decode (mB M_L_law) 143 = .ok (.lcmp, 1) := by decide +kernel
theorem dL_law_144 : decode (mB M_L_law) 144 = .ok (.ifCond .ne 36, 3) := by decide +kernel
theorem dL_law_147 : decode (mB M_L_law) 147 = .ok (.iload 13, 2) := by decide +kernel
theorem dL_law_149 : decode (mB M_L_law) 149 = .ok (.ifCond .eq 27, 3) := by decide +kernel
theorem dL_law_152 : decode (mB M_L_law) 152 = .ok (.aload_n 1, 1) := by decide +kernel
theorem dL_law_153 : decode (mB M_L_law) 153 = .ok (.iconst 4, 1) := by decide +kernel
theorem dL_law_154 : decode (mB M_L_law) 154 = .ok (.invokevirtual 8, 3) := by decide +kernel
theorem dL_law_157 : decode (mB M_L_law) 157 = .ok (.iload 5, 2) := by decide +kernel
theorem dL_law_159 : decode (mB M_L_law) 159 = .ok (.iconst 1, 1) := by decide +kernel
theorem dL_law_160 : decode (mB M_L_law) 160 = .ok (.iadd, 1) := by decide +kernel
theorem dL_law_161 : decode (mB M_L_law) 161 = .ok (.if_icmp .ne 19, 3) := by decide +kernel
theorem dL_law_164 : decode (mB M_L_law) 164 = .ok (.aload_n 1, 1) := by decide +kernel
theorem dL_law_165 : decode (mB M_L_law) 165 = .ok (.iconst 0, 1) := by decide +kernel
theorem dL_law_166 : decode (mB M_L_law) 166 = .ok (.invokevirtual 8, 3) := by decide +kernel
theorem dL_law_169 : decode (mB M_L_law) 169 = .ok (.iload 6, 2) := by decide +kernel
theorem dL_law_171 : decode (mB M_L_law) 171 = .ok (.iconst 1, 1) := by decide +kernel
theorem dL_law_172 : decode (mB M_L_law) 172 = .ok (.iadd, 1) := by decide +kernel
theorem dL_law_173 : decode (mB M_L_law) 173 = .ok (.if_icmp .ne 7, 3) := by decide +kernel
theorem dL_law_176 : decode (mB M_L_law) 176 = .ok (.iconst 1, 1) := by decide +kernel
theorem dL_law_177 : decode (mB M_L_law) 177 = .ok (.goto 4, 3) := by decide +kernel
theorem dL_law_180 : decode (mB M_L_law) 180 = .ok (.iconst 0, 1) := by decide +kernel
theorem dL_law_181 : decode (mB M_L_law) 181 = .ok (.istore 14, 2) := by decide +kernel
theorem dL_law_183 : decode (mB M_L_law) 183 = .ok (.iload 14, 2) := by decide +kernel
theorem dL_law_185 : decode (mB M_L_law) 185 = .ok (.ifCond .eq 68, 3) := by decide +kernel
theorem dL_law_188 : decode (mB M_L_law) 188 = .ok (.iload_n 2, 1) := by decide +kernel
theorem dL_law_189 : decode (mB M_L_law) 189 = .ok (.iconst 2, 1) := by decide +kernel
theorem dL_law_190 : decode (mB M_L_law) 190 = .ok (.irem, 1) := by decide +kernel
theorem dL_law_191 : decode (mB M_L_law) 191 = .ok (.iconst 1, 1) := by decide +kernel
theorem dL_law_192 : decode (mB M_L_law) 192 = .ok (.if_icmp .ne 10, 3) := by decide +kernel
theorem dL_law_195 : decode (mB M_L_law) 195 = .ok (.aload_n 1, 1) := by decide +kernel
theorem dL_law_196 : decode (mB M_L_law) 196 = .ok (.invokestatic 87, 3) := by decide +kernel
theorem dL_law_199 : decode (mB M_L_law) 199 = .ok (.ifCond .eq 54, 3) := by decide +kernel
theorem dL_law_202 : decode (mB M_L_law) 202 = .ok (.iload_n 2, 1) := by decide +kernel
theorem dL_law_203 : decode (mB M_L_law) 203 = .ok (.iconst 4, 1) := by decide +kernel
theorem dL_law_204 : decode (mB M_L_law) 204 = .ok (.irem, 1) := by decide +kernel
theorem dL_law_205 : decode (mB M_L_law) 205 = .ok (.iconst 2, 1) := by decide +kernel
theorem dL_law_206 : decode (mB M_L_law) 206 = .ok (.if_icmp .ne 19, 3) := by decide +kernel
theorem dL_law_209 : decode (mB M_L_law) 209 = .ok (.aload_n 1, 1) := by decide +kernel
theorem dL_law_210 : decode (mB M_L_law) 210 = .ok (.iload_n 3, 1) := by decide +kernel
theorem dL_law_211 : decode (mB M_L_law) 211 = .ok (.bipush 6, 2) := by decide +kernel
theorem dL_law_213 : decode (mB M_L_law) 213 = .ok (.ishr, 1) := by decide +kernel
theorem dL_law_214 : decode (mB M_L_law) 214 = .ok (.bipush 100, 2) := by decide +kernel
theorem dL_law_216 : decode (mB M_L_law) 216 = .ok (.invokestatic 14, 3) := by decide +kernel
theorem dL_law_219 : decode (mB M_L_law) 219 = .ok (.invokestatic 91, 3) := by decide +kernel
theorem dL_law_222 : decode (mB M_L_law) 222 = .ok (.ifCond .eq 31, 3) := by decide +kernel
theorem dL_law_225 : decode (mB M_L_law) 225 = .ok (.iload_n 2, 1) := by decide +kernel
theorem dL_law_226 : decode (mB M_L_law) 226 = .ok (.iconst 5, 1) := by decide +kernel
theorem dL_law_227 : decode (mB M_L_law) 227 = .ok (.irem, 1) := by decide +kernel
theorem dL_law_228 : decode (mB M_L_law) 228 = .ok (.iconst 3, 1) := by decide +kernel
theorem dL_law_229 : decode (mB M_L_law) 229 = .ok (.if_icmp .ne 11, 3) := by decide +kernel
theorem dL_law_232 : decode (mB M_L_law) 232 = .ok (.aload_n 1, 1) := by decide +kernel
theorem dL_law_233 : decode (mB M_L_law) 233 = .ok (.iconst 0, 1) := by decide +kernel
theorem dL_law_234 : decode (mB M_L_law) 234 = .ok (.invokestatic 95, 3) := by decide +kernel
theorem dL_law_237 : decode (mB M_L_law) 237 = .ok (.ifCond .eq 16, 3) := by decide +kernel
theorem dL_law_240 : decode (mB M_L_law) 240 = .ok (.aload_n 1, 1) := by decide +kernel
theorem dL_law_241 : decode (mB M_L_law) 241 = .ok (.invokevirtual 98, 3) := by decide +kernel
theorem dL_law_244 : decode (mB M_L_law) 244 = .ok (.aload_n 1, 1) := by decide +kernel
theorem dL_law_245 : decode (mB M_L_law) 245 = .ok (.bipush 6, 2) := by decide +kernel
theorem dL_law_247 : decode (mB M_L_law) 247 = .ok (.invokevirtual 8, 3) := by decide +kernel
theorem dL_law_250 : decode (mB M_L_law) 250 = .ok (.if_icmp .ge 5, 3) := by decide +kernel
theorem dL_law_253 : decode (mB M_L_law) 253 = .ok (.iconst 0, 1) := by decide +kernel
theorem dL_law_254 : decode (mB M_L_law) 254 = .ok (.ireturn, 1) := by decide +kernel
theorem dL_law_255 : decode (mB M_L_law) 255 = .ok (.iinc 2 1, 3) := by decide +kernel
theorem dL_law_258 : decode (mB M_L_law) 258 = .ok (.goto (-248), 3) := by decide +kernel
theorem dL_law_261 : decode (mB M_L_law) 261 = .ok (.iconst 1, 1) := by decide +kernel
theorem dL_law_262 : decode (mB M_L_law) 262 = .ok (.ireturn, 1) := by decide +kernel
def b_L_law_240 (L : Nat) (xs : Nat → Int32) (v0 : Nat) (k10 : HP → Nat → Nat → Nat → Int32 → Option (Int32)) (h : HP) (bc bs : Nat) (v1 : Nat) (v2 : Int32) : Option (Int32) :=
  (f_X7_fewest h v1).bind fun y1 => (f_X7_about y1.2 v1 6).bind fun y2 => (rt y2.1).bind fun r3 => if r3 ≤ y1.1 then k10 y2.2 bc bs v1 (v2 + 1) else some (0)
def b_L_law_225 (L : Nat) (xs : Nat → Int32) (v0 : Nat) (k10 : HP → Nat → Nat → Nat → Int32 → Option (Int32)) (h : HP) (bc bs : Nat) (v1 : Nat) (v2 : Int32) : Option (Int32) :=
  if (jrem v2 5) = 3 then (f_L_isMergeSo h v1 0).bind fun y2 => if y2.1 = 0 then some (0) else b_L_law_240 L xs v0 k10 y2.2 bc bs v1 v2 else b_L_law_240 L xs v0 k10 h bc bs v1 v2
def b_L_law_202 (L : Nat) (xs : Nat → Int32) (v0 : Nat) (k10 : HP → Nat → Nat → Nat → Int32 → Option (Int32)) (h : HP) (bc bs : Nat) (v1 : Nat) (v2 : Int32) (v3 : Int32) : Option (Int32) :=
  if (jrem v2 4) = 2 then (f_L_low h (jishr v3 6) 100).bind fun y2 => (f_L_areKeysSo h v1 y2).bind fun y3 => if y3.1 = 0 then some (0) else b_L_law_225 L xs v0 k10 y3.2 bc bs v1 v2 else b_L_law_225 L xs v0 k10 h bc bs v1 v2
def b_L_law_181 (L : Nat) (xs : Nat → Int32) (v0 : Nat) (k10 : HP → Nat → Nat → Nat → Int32 → Option (Int32)) (h : HP) (bc bs : Nat) (v1 : Nat) (v2 : Int32) (v3 : Int32) (s0 : Int32) : Option (Int32) :=
  if s0 = 0 then some (0) else if (jrem v2 2) = 1 then (f_L_areWritesSo h v1).bind fun y3 => if y3.1 = 0 then some (0) else b_L_law_202 L xs v0 k10 y3.2 bc bs v1 v2 v3 else b_L_law_202 L xs v0 k10 h bc bs v1 v2 v3
def b_L_law_147 (L : Nat) (xs : Nat → Int32) (v0 : Nat) (k10 : HP → Nat → Nat → Nat → Int32 → Option (Int32)) (h : HP) (bc bs : Nat) (v1 : Nat) (v2 : Int32) (v3 : Int32) (v5 : Int32) (v6 : Int32) (v13 : Int32) : Option (Int32) :=
  if v13 = 0 then b_L_law_181 L xs v0 k10 h bc bs v1 v2 v3 1 else (f_X7_about h v1 4).bind fun y2 => (rt y2.1).bind fun r3 => if r3 = (v5 + 1) then (f_X7_about y2.2 v1 0).bind fun y5 => (rt y5.1).bind fun r6 => if r6 = (v6 + 1) then b_L_law_181 L xs v0 k10 y5.2 bc bs v1 v2 v3 1 else b_L_law_181 L xs v0 k10 y5.2 bc bs v1 v2 v3 0 else b_L_law_181 L xs v0 k10 y2.2 bc bs v1 v2 v3 0
def b_L_law_117 (L : Nat) (xs : Nat → Int32) (v0 : Nat) (k10 : HP → Nat → Nat → Nat → Int32 → Option (Int32)) (h : HP) (bc bs : Nat) (v1 : Nat) (v2 : Int32) (v3 : Int32) (v4 : Int32) (v5 : Int32) (v6 : Int32) (v7 : Int32) (v10 : Int64) (v13 : Int32) : Option (Int32) :=
  if v4 = 11 then b_L_law_147 L xs v0 k10 h bc bs v1 v2 v3 v5 v6 v13 else if v4 = 12 then b_L_law_147 L xs v0 k10 h bc bs v1 v2 v3 v5 v6 v13 else if v7 = 0 then b_L_law_147 L xs v0 k10 h bc bs v1 v2 v3 v5 v6 v13 else (f_L_tale h v1 0).bind fun y4 => if (lg_cmp y4 v10) = 0 then b_L_law_147 L xs v0 k10 h bc bs v1 v2 v3 v5 v6 v13 else b_L_law_181 L xs v0 k10 h bc bs v1 v2 v3 0
def b_L_law_94 (L : Nat) (xs : Nat → Int32) (v0 : Nat) (k10 : HP → Nat → Nat → Nat → Int32 → Option (Int32)) (h : HP) (bc bs : Nat) (v1 : Nat) (v2 : Int32) (v3 : Int32) (v4 : Int32) (v5 : Int32) (v6 : Int32) (v7 : Int32) (v8 : Int64) (v10 : Int64) (v12 : Int32) (s0 : Int32) : Option (Int32) :=
  if v12 < 0 then b_L_law_181 L xs v0 k10 h bc bs v1 v2 v3 0 else if s0 = 0 then (f_L_tale h v1 (-1)).bind fun y3 => if (lg_cmp y3 v8) = 0 then b_L_law_117 L xs v0 k10 h bc bs v1 v2 v3 v4 v5 v6 v7 v10 s0 else b_L_law_181 L xs v0 k10 h bc bs v1 v2 v3 0 else b_L_law_117 L xs v0 k10 h bc bs v1 v2 v3 v4 v5 v6 v7 v10 s0
def b_L_law_70 (L : Nat) (xs : Nat → Int32) (v0 : Nat) (k10 : HP → Nat → Nat → Nat → Int32 → Option (Int32)) (h : HP) (bc bs : Nat) (v1 : Nat) (v2 : Int32) (v3 : Int32) (v4 : Int32) (v5 : Int32) (v6 : Int32) (v7 : Int32) (v8 : Int64) (s0 : Int64) : Option (Int32) :=
  (f_L_does h v1 v3).bind fun y1 => (f_X7_about y1.2 v1 0).bind fun y2 => (rt y2.1).bind fun r3 => if r3 ≤ v6 then b_L_law_94 L xs v0 k10 y2.2 bc bs v1 v2 v3 v4 v5 v6 v7 v8 s0 y1.1 0 else b_L_law_94 L xs v0 k10 y2.2 bc bs v1 v2 v3 v4 v5 v6 v7 v8 s0 y1.1 1
def c_L_law_10 (L : Nat) (xs : Nat → Int32) (v0 : Nat) (k10 : HP → Nat → Nat → Nat → Int32 → Option (Int32)) (h : HP) (bc bs : Nat) (v1 : Nat) (v2 : Int32) : Option (Int32) :=
  if 60 ≤ v2 then some (1) else (f_L_cell h L xs v0 v2).bind fun y2 => (f_X7_about h v1 4).bind fun y3 => (rt y3.1).bind fun r4 => (f_X7_about y3.2 v1 0).bind fun y5 => (rt y5.1).bind fun r6 => (f_X7_about y5.2 v1 3).bind fun y7 => (rt y7.1).bind fun r8 => (f_L_tale y7.2 v1 (-1)).bind fun y9 => if r8 ≤ 0 then b_L_law_70 L xs v0 k10 y7.2 bc bs v1 v2 y2 (y2 &&& 15) r4 r6 r8 y9 0 else (f_L_tale y7.2 v1 0).bind fun y11 => b_L_law_70 L xs v0 k10 y7.2 bc bs v1 v2 y2 (y2 &&& 15) r4 r6 r8 y9 y11
def b_L_law_10 (L : Nat) (xs : Nat → Int32) (v0 : Nat) : Nat → HP → Nat → Nat → Nat → Int32 → Option (Int32)
  | 0, _, _, _, _, _ => none
  | n + 1, h, bc, bs, v1, v2 => c_L_law_10 L xs v0 (b_L_law_10 L xs v0 n) h bc bs v1 v2
def b_L_law_0 (q0 : Nat) (L : Nat) (xs : Nat → Int32) (v0 : Nat) (h : HP) (bc bs : Nat) : Option (Int32) :=
  (tk bc 1).bind fun b2 => (tk bs 7).bind fun b3 => (nwO h q0 7 [.null, .null, .null, .null, .null, .null, .null]).bind fun h1 => (tk b2 310).bind fun b5 => (tk b3 27530).bind fun b6 => (f_X7_init h1 (q0 + 1) q0).bind fun y4 => b_L_law_10 L xs v0 FU y4.1 b5 b6 q0 0
theorem w_L_law_240 {l : Launch} {X : SCR} {Q : PST} {res : Int32} {h : HP} {bc bs : Nat} (hQ : ∀ (h' : HP) (sz' : Nat), Q (.inl (some (.int res))) h' sz') {L : Nat} {xs : Nat → Int32} {v0 : Nat} (hX : X.1 = some (v0, L, xs)) {k10 : HP → Nat → Nat → Nat → Int32 → Option (Int32)} (hk10 : ∀ (h : HP) (bc bs : Nat) (v1 : Nat) (v2 : Int32) (sz : Nat), k10 h bc bs v1 v2 = some res → SP l X M_L_law 10 [(0, .ref v0), (1, .ref v1), (2, .int v2)] [] h sz bc bs Q) {v1 : Nat} {v2 : Int32} {sz : Nat} (hf : b_L_law_240 L xs v0 k10 h bc bs v1 v2 = some res) : SP l X M_L_law 240 [(0, .ref v0), (1, .ref v1), (2, .int v2)] [] h sz bc bs Q := by
  rw [b_L_law_240] at hf
  refine sp_aload_n (pc := 240) dL_law_240 1 rfl ?_
  obtain ⟨y1, ey1, hf⟩ := ob hf
  obtain ⟨fsy1, hoy1⟩ := o_X7_fewest ey1
  refine sp_callVi (pc := 241) (z := M_X7_fewest) (As := []) (b := v1) (bc2 := bc) (bs2 := bs) (m_X7_fewest (Q := _) (fun sz => ⟨y1.1, rfl, ?_⟩) ey1) rfl dL_law_241 hoy1 rfl rfl ck_L_law_98 (Nat.le_of_ble_eq_true rfl) rfl rfl rfl
  refine sp_aload_n (pc := 244) dL_law_244 1 rfl ?_
  refine sp_bipush (pc := 245) (v := 6) dL_law_245 (by decide) ?_
  obtain ⟨y2, ey2, hf⟩ := ob hf
  obtain ⟨r3, er3, hf⟩ := ob hf
  obtain ⟨fsy2, hoy2⟩ := o_X7_about ey2
  refine sp_callVi (pc := 247) (z := M_X7_about) (As := [.int 6]) (b := v1) (bc2 := bc) (bs2 := bs) (m_X7_about (Q := _) (fun sz => ⟨r3, outT_e er3, ?_⟩) (rt_no er3) ey2) rfl dL_law_247 hoy2 rfl rfl ck_L_law_8 (Nat.le_of_ble_eq_true rfl) rfl rfl rfl
  refine sp_icmp_ge (pc := 250) (tgt := 255) dL_law_250 (by decide) (fun c4 => ?_) (fun c4 => ?_)
  · rw [if_pos c4] at hf
    refine sp_iinc (pc := 255) (v := v2 + 1) (lv' := [(2, .int (v2 + 1)), (0, .ref v0), (1, .ref v1)]) dL_law_255 2 rfl rfl (by decide) rfl ?_
    refine sp_goto (pc := 258) (tgt := 10) dL_law_258 (by decide) ?_
    exact sp_sub [1, 2, 0] rfl (hk10 _ _ _ _ _ _ hf)
  · rw [if_neg c4] at hf
    refine sp_iconst (pc := 253) (v := 0) dL_law_253 (by decide) ?_
    obtain rfl := Option.some.inj hf
    exact sp_ireturn (pc := 254) dL_law_254 rfl rfl (hQ _ _)

theorem w_L_law_225 {l : Launch} {X : SCR} {Q : PST} {res : Int32} {h : HP} {bc bs : Nat} (hQ : ∀ (h' : HP) (sz' : Nat), Q (.inl (some (.int res))) h' sz') {L : Nat} {xs : Nat → Int32} {v0 : Nat} (hX : X.1 = some (v0, L, xs)) {k10 : HP → Nat → Nat → Nat → Int32 → Option (Int32)} (hk10 : ∀ (h : HP) (bc bs : Nat) (v1 : Nat) (v2 : Int32) (sz : Nat), k10 h bc bs v1 v2 = some res → SP l X M_L_law 10 [(0, .ref v0), (1, .ref v1), (2, .int v2)] [] h sz bc bs Q) {v1 : Nat} {v2 : Int32} {sz : Nat} (hf : b_L_law_225 L xs v0 k10 h bc bs v1 v2 = some res) : SP l X M_L_law 225 [(0, .ref v0), (1, .ref v1), (2, .int v2)] [] h sz bc bs Q := by
  rw [b_L_law_225] at hf
  refine sp_iload_n (pc := 225) dL_law_225 2 rfl ?_
  refine sp_iconst (pc := 226) (v := 5) dL_law_226 (by decide) ?_
  refine sp_iremJ (pc := 227) dL_law_227 (by decide) ?_
  refine sp_iconst (pc := 228) (v := 3) dL_law_228 (by decide) ?_
  refine sp_icmp_ne (pc := 229) (tgt := 240) dL_law_229 (by decide) (fun c1 => ?_) (fun c1 => ?_)
  · rw [if_neg c1] at hf
    exact (w_L_law_240 hQ hX hk10 hf)
  · rw [if_pos c1] at hf
    refine sp_aload_n (pc := 232) dL_law_232 1 rfl ?_
    refine sp_iconst (pc := 233) (v := 0) dL_law_233 (by decide) ?_
    obtain ⟨y2, ey2, hf⟩ := ob hf
    refine sp_callSi (pc := 234) (z := M_L_isMergeSo) (As := [.ref v1, .int 0]) (bc2 := bc) (bs2 := bs) (m_L_isMergeSo (Q := _) (fun sz => ⟨y2.1, rfl, ?_⟩) ey2) rfl dL_law_234 rfl ck_L_law_95 (Nat.le_of_ble_eq_true rfl) rfl rfl rfl
    refine sp_if_eq (pc := 237) (tgt := 253) dL_law_237 (by decide) (fun c3 => ?_) (fun c3 => ?_)
    · rw [if_pos c3] at hf
      refine sp_iconst (pc := 253) (v := 0) dL_law_253 (by decide) ?_
      obtain rfl := Option.some.inj hf
      exact sp_ireturn (pc := 254) dL_law_254 rfl rfl (hQ _ _)
    · rw [if_neg c3] at hf
      exact (w_L_law_240 hQ hX hk10 hf)

theorem w_L_law_202 {l : Launch} {X : SCR} {Q : PST} {res : Int32} {h : HP} {bc bs : Nat} (hQ : ∀ (h' : HP) (sz' : Nat), Q (.inl (some (.int res))) h' sz') {L : Nat} {xs : Nat → Int32} {v0 : Nat} (hX : X.1 = some (v0, L, xs)) {k10 : HP → Nat → Nat → Nat → Int32 → Option (Int32)} (hk10 : ∀ (h : HP) (bc bs : Nat) (v1 : Nat) (v2 : Int32) (sz : Nat), k10 h bc bs v1 v2 = some res → SP l X M_L_law 10 [(0, .ref v0), (1, .ref v1), (2, .int v2)] [] h sz bc bs Q) {v1 : Nat} {v2 : Int32} {v3 : Int32} {sz : Nat} (hf : b_L_law_202 L xs v0 k10 h bc bs v1 v2 v3 = some res) : SP l X M_L_law 202 [(0, .ref v0), (1, .ref v1), (2, .int v2), (3, .int v3)] [] h sz bc bs Q := by
  rw [b_L_law_202] at hf
  refine sp_iload_n (pc := 202) dL_law_202 2 rfl ?_
  refine sp_iconst (pc := 203) (v := 4) dL_law_203 (by decide) ?_
  refine sp_iremJ (pc := 204) dL_law_204 (by decide) ?_
  refine sp_iconst (pc := 205) (v := 2) dL_law_205 (by decide) ?_
  refine sp_icmp_ne (pc := 206) (tgt := 225) dL_law_206 (by decide) (fun c1 => ?_) (fun c1 => ?_)
  · rw [if_neg c1] at hf
    exact sp_sub [0, 1, 2] rfl (w_L_law_225 hQ hX hk10 hf)
  · rw [if_pos c1] at hf
    refine sp_aload_n (pc := 209) dL_law_209 1 rfl ?_
    refine sp_iload_n (pc := 210) dL_law_210 3 rfl ?_
    refine sp_bipush (pc := 211) (v := 6) dL_law_211 (by decide) ?_
    refine sp_ishr (pc := 213) dL_law_213 ?_
    refine sp_bipush (pc := 214) (v := 100) dL_law_214 (by decide) ?_
    obtain ⟨y2, ey2, hf⟩ := ob hf
    refine sp_callSi (pc := 216) (z := M_L_low) (As := [.int (jishr v3 6), .int 100]) (bc2 := bc) (bs2 := bs) (m_L_low (Q := _) (fun sz => ⟨y2, rfl, ?_⟩) ey2) rfl dL_law_216 rfl ck_L_law_14 (Nat.le_of_ble_eq_true rfl) rfl rfl rfl
    obtain ⟨y3, ey3, hf⟩ := ob hf
    refine sp_callSi (pc := 219) (z := M_L_areKeysSo) (As := [.ref v1, .int y2]) (bc2 := bc) (bs2 := bs) (m_L_areKeysSo (Q := _) (fun sz => ⟨y3.1, rfl, ?_⟩) ey3) rfl dL_law_219 rfl ck_L_law_91 (Nat.le_of_ble_eq_true rfl) rfl rfl rfl
    refine sp_if_eq (pc := 222) (tgt := 253) dL_law_222 (by decide) (fun c4 => ?_) (fun c4 => ?_)
    · rw [if_pos c4] at hf
      refine sp_iconst (pc := 253) (v := 0) dL_law_253 (by decide) ?_
      obtain rfl := Option.some.inj hf
      exact sp_ireturn (pc := 254) dL_law_254 rfl rfl (hQ _ _)
    · rw [if_neg c4] at hf
      exact sp_sub [0, 1, 2] rfl (w_L_law_225 hQ hX hk10 hf)

theorem w_L_law_181 {l : Launch} {X : SCR} {Q : PST} {res : Int32} {h : HP} {bc bs : Nat} (hQ : ∀ (h' : HP) (sz' : Nat), Q (.inl (some (.int res))) h' sz') {L : Nat} {xs : Nat → Int32} {v0 : Nat} (hX : X.1 = some (v0, L, xs)) {k10 : HP → Nat → Nat → Nat → Int32 → Option (Int32)} (hk10 : ∀ (h : HP) (bc bs : Nat) (v1 : Nat) (v2 : Int32) (sz : Nat), k10 h bc bs v1 v2 = some res → SP l X M_L_law 10 [(0, .ref v0), (1, .ref v1), (2, .int v2)] [] h sz bc bs Q) {v1 : Nat} {v2 : Int32} {v3 : Int32} {s0 : Int32} {sz : Nat} (hf : b_L_law_181 L xs v0 k10 h bc bs v1 v2 v3 s0 = some res) : SP l X M_L_law 181 [(0, .ref v0), (1, .ref v1), (2, .int v2), (3, .int v3)] [.int s0] h sz bc bs Q := by
  rw [b_L_law_181] at hf
  refine sp_istore (pc := 181) (lv' := [(14, .int s0), (0, .ref v0), (1, .ref v1), (2, .int v2), (3, .int v3)]) dL_law_181 (by decide) rfl ?_
  refine sp_iload (pc := 183) dL_law_183 0 rfl ?_
  refine sp_if_eq (pc := 185) (tgt := 253) dL_law_185 (by decide) (fun c1 => ?_) (fun c1 => ?_)
  · rw [if_pos c1] at hf
    refine sp_iconst (pc := 253) (v := 0) dL_law_253 (by decide) ?_
    obtain rfl := Option.some.inj hf
    exact sp_ireturn (pc := 254) dL_law_254 rfl rfl (hQ _ _)
  · rw [if_neg c1] at hf
    refine sp_iload_n (pc := 188) dL_law_188 3 rfl ?_
    refine sp_iconst (pc := 189) (v := 2) dL_law_189 (by decide) ?_
    refine sp_iremJ (pc := 190) dL_law_190 (by decide) ?_
    refine sp_iconst (pc := 191) (v := 1) dL_law_191 (by decide) ?_
    refine sp_icmp_ne (pc := 192) (tgt := 202) dL_law_192 (by decide) (fun c2 => ?_) (fun c2 => ?_)
    · rw [if_neg c2] at hf
      exact sp_sub [1, 2, 3, 4] rfl (w_L_law_202 hQ hX hk10 hf)
    · rw [if_pos c2] at hf
      refine sp_aload_n (pc := 195) dL_law_195 2 rfl ?_
      obtain ⟨y3, ey3, hf⟩ := ob hf
      refine sp_callSi (pc := 196) (z := M_L_areWritesSo) (As := [.ref v1]) (bc2 := bc) (bs2 := bs) (m_L_areWritesSo (Q := _) (fun sz => ⟨y3.1, rfl, ?_⟩) ey3) rfl dL_law_196 rfl ck_L_law_87 (Nat.le_of_ble_eq_true rfl) rfl rfl rfl
      refine sp_if_eq (pc := 199) (tgt := 253) dL_law_199 (by decide) (fun c4 => ?_) (fun c4 => ?_)
      · rw [if_pos c4] at hf
        refine sp_iconst (pc := 253) (v := 0) dL_law_253 (by decide) ?_
        obtain rfl := Option.some.inj hf
        exact sp_ireturn (pc := 254) dL_law_254 rfl rfl (hQ _ _)
      · rw [if_neg c4] at hf
        exact sp_sub [1, 2, 3, 4] rfl (w_L_law_202 hQ hX hk10 hf)

theorem w_L_law_147 {l : Launch} {X : SCR} {Q : PST} {res : Int32} {h : HP} {bc bs : Nat} (hQ : ∀ (h' : HP) (sz' : Nat), Q (.inl (some (.int res))) h' sz') {L : Nat} {xs : Nat → Int32} {v0 : Nat} (hX : X.1 = some (v0, L, xs)) {k10 : HP → Nat → Nat → Nat → Int32 → Option (Int32)} (hk10 : ∀ (h : HP) (bc bs : Nat) (v1 : Nat) (v2 : Int32) (sz : Nat), k10 h bc bs v1 v2 = some res → SP l X M_L_law 10 [(0, .ref v0), (1, .ref v1), (2, .int v2)] [] h sz bc bs Q) {v1 : Nat} {v2 : Int32} {v3 : Int32} {v5 : Int32} {v6 : Int32} {v13 : Int32} {sz : Nat} (hf : b_L_law_147 L xs v0 k10 h bc bs v1 v2 v3 v5 v6 v13 = some res) : SP l X M_L_law 147 [(0, .ref v0), (1, .ref v1), (2, .int v2), (3, .int v3), (5, .int v5), (6, .int v6), (13, .int v13)] [] h sz bc bs Q := by
  rw [b_L_law_147] at hf
  refine sp_iload (pc := 147) dL_law_147 6 rfl ?_
  refine sp_if_eq (pc := 149) (tgt := 176) dL_law_149 (by decide) (fun c1 => ?_) (fun c1 => ?_)
  · rw [if_pos c1] at hf
    refine sp_iconst (pc := 176) (v := 1) dL_law_176 (by decide) ?_
    refine sp_goto (pc := 177) (tgt := 181) dL_law_177 (by decide) ?_
    exact sp_sub [0, 1, 2, 3] rfl (w_L_law_181 hQ hX hk10 hf)
  · rw [if_neg c1] at hf
    refine sp_aload_n (pc := 152) dL_law_152 1 rfl ?_
    refine sp_iconst (pc := 153) (v := 4) dL_law_153 (by decide) ?_
    obtain ⟨y2, ey2, hf⟩ := ob hf
    obtain ⟨r3, er3, hf⟩ := ob hf
    obtain ⟨fsy2, hoy2⟩ := o_X7_about ey2
    refine sp_callVi (pc := 154) (z := M_X7_about) (As := [.int 4]) (b := v1) (bc2 := bc) (bs2 := bs) (m_X7_about (Q := _) (fun sz => ⟨r3, outT_e er3, ?_⟩) (rt_no er3) ey2) rfl dL_law_154 hoy2 rfl rfl ck_L_law_8 (Nat.le_of_ble_eq_true rfl) rfl rfl rfl
    refine sp_iload (pc := 157) dL_law_157 4 rfl ?_
    refine sp_iconst (pc := 159) (v := 1) dL_law_159 (by decide) ?_
    refine sp_iadd (pc := 160) dL_law_160 ?_
    refine sp_icmp_ne (pc := 161) (tgt := 180) dL_law_161 (by decide) (fun c4 => ?_) (fun c4 => ?_)
    · rw [if_neg c4] at hf
      refine sp_iconst (pc := 180) (v := 0) dL_law_180 (by decide) ?_
      exact sp_sub [0, 1, 2, 3] rfl (w_L_law_181 hQ hX hk10 hf)
    · rw [if_pos c4] at hf
      refine sp_aload_n (pc := 164) dL_law_164 1 rfl ?_
      refine sp_iconst (pc := 165) (v := 0) dL_law_165 (by decide) ?_
      obtain ⟨y5, ey5, hf⟩ := ob hf
      obtain ⟨r6, er6, hf⟩ := ob hf
      obtain ⟨fsy5, hoy5⟩ := o_X7_about ey5
      refine sp_callVi (pc := 166) (z := M_X7_about) (As := [.int 0]) (b := v1) (bc2 := bc) (bs2 := bs) (m_X7_about (Q := _) (fun sz => ⟨r6, outT_e er6, ?_⟩) (rt_no er6) ey5) rfl dL_law_166 hoy5 rfl rfl ck_L_law_8 (Nat.le_of_ble_eq_true rfl) rfl rfl rfl
      refine sp_iload (pc := 169) dL_law_169 5 rfl ?_
      refine sp_iconst (pc := 171) (v := 1) dL_law_171 (by decide) ?_
      refine sp_iadd (pc := 172) dL_law_172 ?_
      refine sp_icmp_ne (pc := 173) (tgt := 180) dL_law_173 (by decide) (fun c7 => ?_) (fun c7 => ?_)
      · rw [if_neg c7] at hf
        refine sp_iconst (pc := 180) (v := 0) dL_law_180 (by decide) ?_
        exact sp_sub [0, 1, 2, 3] rfl (w_L_law_181 hQ hX hk10 hf)
      · rw [if_pos c7] at hf
        refine sp_iconst (pc := 176) (v := 1) dL_law_176 (by decide) ?_
        refine sp_goto (pc := 177) (tgt := 181) dL_law_177 (by decide) ?_
        exact sp_sub [0, 1, 2, 3] rfl (w_L_law_181 hQ hX hk10 hf)

theorem w_L_law_117 {l : Launch} {X : SCR} {Q : PST} {res : Int32} {h : HP} {bc bs : Nat} (hQ : ∀ (h' : HP) (sz' : Nat), Q (.inl (some (.int res))) h' sz') {L : Nat} {xs : Nat → Int32} {v0 : Nat} (hX : X.1 = some (v0, L, xs)) {k10 : HP → Nat → Nat → Nat → Int32 → Option (Int32)} (hk10 : ∀ (h : HP) (bc bs : Nat) (v1 : Nat) (v2 : Int32) (sz : Nat), k10 h bc bs v1 v2 = some res → SP l X M_L_law 10 [(0, .ref v0), (1, .ref v1), (2, .int v2)] [] h sz bc bs Q) {v1 : Nat} {v2 : Int32} {v3 : Int32} {v4 : Int32} {v5 : Int32} {v6 : Int32} {v7 : Int32} {v10 : Int64} {v13 : Int32} {sz : Nat} (hf : b_L_law_117 L xs v0 k10 h bc bs v1 v2 v3 v4 v5 v6 v7 v10 v13 = some res) : SP l X M_L_law 117 [(0, .ref v0), (1, .ref v1), (2, .int v2), (3, .int v3), (4, .int v4), (5, .int v5), (6, .int v6), (7, .int v7), (10, .long v10), (13, .int v13)] [] h sz bc bs Q := by
  rw [b_L_law_117] at hf
  refine sp_iload (pc := 117) dL_law_117 4 rfl ?_
  refine sp_bipush (pc := 119) (v := 11) dL_law_119 (by decide) ?_
  refine sp_icmp_eq (pc := 121) (tgt := 147) dL_law_121 (by decide) (fun c1 => ?_) (fun c1 => ?_)
  · rw [if_pos c1] at hf
    exact sp_sub [0, 1, 2, 3, 5, 6, 9] rfl (w_L_law_147 hQ hX hk10 hf)
  · rw [if_neg c1] at hf
    refine sp_iload (pc := 124) dL_law_124 4 rfl ?_
    refine sp_bipush (pc := 126) (v := 12) dL_law_126 (by decide) ?_
    refine sp_icmp_eq (pc := 128) (tgt := 147) dL_law_128 (by decide) (fun c2 => ?_) (fun c2 => ?_)
    · rw [if_pos c2] at hf
      exact sp_sub [0, 1, 2, 3, 5, 6, 9] rfl (w_L_law_147 hQ hX hk10 hf)
    · rw [if_neg c2] at hf
      refine sp_iload (pc := 131) dL_law_131 7 rfl ?_
      refine sp_if_eq (pc := 133) (tgt := 147) dL_law_133 (by decide) (fun c3 => ?_) (fun c3 => ?_)
      · rw [if_pos c3] at hf
        exact sp_sub [0, 1, 2, 3, 5, 6, 9] rfl (w_L_law_147 hQ hX hk10 hf)
      · rw [if_neg c3] at hf
        refine sp_aload_n (pc := 136) dL_law_136 1 rfl ?_
        refine sp_iconst (pc := 137) (v := 0) dL_law_137 (by decide) ?_
        obtain ⟨y4, ey4, hf⟩ := ob hf
        refine sp_callSl (pc := 138) (z := M_L_tale) (As := [.ref v1, .int 0]) (bc2 := bc) (bs2 := bs) (m_L_tale (Q := _) (fun sz => ⟨y4, rfl, ?_⟩) ey4) rfl dL_law_138 rfl ck_L_law_71 (Nat.le_of_ble_eq_true rfl) rfl rfl rfl
        refine sp_lload (pc := 141) dL_law_141 8 rfl ?_
        refine sp_lcmp (pc := 143) dL_law_143 ?_
        refine sp_if_ne (pc := 144) (tgt := 180) dL_law_144 (by decide) (fun c5 => ?_) (fun c5 => ?_)
        · rw [if_neg c5] at hf
          refine sp_iconst (pc := 180) (v := 0) dL_law_180 (by decide) ?_
          exact sp_sub [0, 1, 2, 3] rfl (w_L_law_181 hQ hX hk10 hf)
        · rw [if_pos c5] at hf
          exact sp_sub [0, 1, 2, 3, 5, 6, 9] rfl (w_L_law_147 hQ hX hk10 hf)

theorem w_L_law_94 {l : Launch} {X : SCR} {Q : PST} {res : Int32} {h : HP} {bc bs : Nat} (hQ : ∀ (h' : HP) (sz' : Nat), Q (.inl (some (.int res))) h' sz') {L : Nat} {xs : Nat → Int32} {v0 : Nat} (hX : X.1 = some (v0, L, xs)) {k10 : HP → Nat → Nat → Nat → Int32 → Option (Int32)} (hk10 : ∀ (h : HP) (bc bs : Nat) (v1 : Nat) (v2 : Int32) (sz : Nat), k10 h bc bs v1 v2 = some res → SP l X M_L_law 10 [(0, .ref v0), (1, .ref v1), (2, .int v2)] [] h sz bc bs Q) {v1 : Nat} {v2 : Int32} {v3 : Int32} {v4 : Int32} {v5 : Int32} {v6 : Int32} {v7 : Int32} {v8 : Int64} {v10 : Int64} {v12 : Int32} {s0 : Int32} {sz : Nat} (hf : b_L_law_94 L xs v0 k10 h bc bs v1 v2 v3 v4 v5 v6 v7 v8 v10 v12 s0 = some res) : SP l X M_L_law 94 [(0, .ref v0), (1, .ref v1), (2, .int v2), (3, .int v3), (4, .int v4), (5, .int v5), (6, .int v6), (7, .int v7), (8, .long v8), (10, .long v10), (12, .int v12)] [.int s0] h sz bc bs Q := by
  rw [b_L_law_94] at hf
  refine sp_istore (pc := 94) (lv' := [(13, .int s0), (0, .ref v0), (1, .ref v1), (2, .int v2), (3, .int v3), (4, .int v4), (5, .int v5), (6, .int v6), (7, .int v7), (8, .long v8), (10, .long v10), (12, .int v12)]) dL_law_94 (by decide) rfl ?_
  refine sp_iload (pc := 96) dL_law_96 11 rfl ?_
  refine sp_if_lt (pc := 98) (tgt := 180) dL_law_98 (by decide) (fun c1 => ?_) (fun c1 => ?_)
  · rw [if_pos c1] at hf
    refine sp_iconst (pc := 180) (v := 0) dL_law_180 (by decide) ?_
    exact sp_sub [1, 2, 3, 4] rfl (w_L_law_181 hQ hX hk10 hf)
  · rw [if_neg c1] at hf
    refine sp_iload (pc := 101) dL_law_101 0 rfl ?_
    refine sp_if_ne (pc := 103) (tgt := 117) dL_law_103 (by decide) (fun c2 => ?_) (fun c2 => ?_)
    · rw [if_neg c2] at hf
      exact sp_sub [1, 2, 3, 4, 5, 6, 7, 8, 10, 0] rfl (w_L_law_117 hQ hX hk10 hf)
    · rw [if_pos c2] at hf
      refine sp_aload_n (pc := 106) dL_law_106 2 rfl ?_
      refine sp_iconst (pc := 107) (v := (-1)) dL_law_107 (by decide) ?_
      obtain ⟨y3, ey3, hf⟩ := ob hf
      refine sp_callSl (pc := 108) (z := M_L_tale) (As := [.ref v1, .int (-1)]) (bc2 := bc) (bs2 := bs) (m_L_tale (Q := _) (fun sz => ⟨y3, rfl, ?_⟩) ey3) rfl dL_law_108 rfl ck_L_law_71 (Nat.le_of_ble_eq_true rfl) rfl rfl rfl
      refine sp_lload (pc := 111) dL_law_111 9 rfl ?_
      refine sp_lcmp (pc := 113) dL_law_113 ?_
      refine sp_if_ne (pc := 114) (tgt := 180) dL_law_114 (by decide) (fun c4 => ?_) (fun c4 => ?_)
      · rw [if_neg c4] at hf
        refine sp_iconst (pc := 180) (v := 0) dL_law_180 (by decide) ?_
        exact sp_sub [1, 2, 3, 4] rfl (w_L_law_181 hQ hX hk10 hf)
      · rw [if_pos c4] at hf
        exact sp_sub [1, 2, 3, 4, 5, 6, 7, 8, 10, 0] rfl (w_L_law_117 hQ hX hk10 hf)

theorem w_L_law_70 {l : Launch} {X : SCR} {Q : PST} {res : Int32} {h : HP} {bc bs : Nat} (hQ : ∀ (h' : HP) (sz' : Nat), Q (.inl (some (.int res))) h' sz') {L : Nat} {xs : Nat → Int32} {v0 : Nat} (hX : X.1 = some (v0, L, xs)) {k10 : HP → Nat → Nat → Nat → Int32 → Option (Int32)} (hk10 : ∀ (h : HP) (bc bs : Nat) (v1 : Nat) (v2 : Int32) (sz : Nat), k10 h bc bs v1 v2 = some res → SP l X M_L_law 10 [(0, .ref v0), (1, .ref v1), (2, .int v2)] [] h sz bc bs Q) {v1 : Nat} {v2 : Int32} {v3 : Int32} {v4 : Int32} {v5 : Int32} {v6 : Int32} {v7 : Int32} {v8 : Int64} {s0 : Int64} {sz : Nat} (hf : b_L_law_70 L xs v0 k10 h bc bs v1 v2 v3 v4 v5 v6 v7 v8 s0 = some res) : SP l X M_L_law 70 [(0, .ref v0), (1, .ref v1), (2, .int v2), (3, .int v3), (4, .int v4), (5, .int v5), (6, .int v6), (7, .int v7), (8, .long v8)] [.long s0] h sz bc bs Q := by
  rw [b_L_law_70] at hf
  refine sp_lstore (pc := 70) (lv' := [(10, .long s0), (0, .ref v0), (1, .ref v1), (2, .int v2), (3, .int v3), (4, .int v4), (5, .int v5), (6, .int v6), (7, .int v7), (8, .long v8)]) dL_law_70 (by decide) rfl ?_
  refine sp_aload_n (pc := 72) dL_law_72 2 rfl ?_
  refine sp_iload_n (pc := 73) dL_law_73 4 rfl ?_
  obtain ⟨y1, ey1, hf⟩ := ob hf
  refine sp_callSi (pc := 74) (z := M_L_does) (As := [.ref v1, .int v3]) (bc2 := bc) (bs2 := bs) (m_L_does (Q := _) (fun sz => ⟨y1.1, rfl, ?_⟩) ey1) rfl dL_law_74 rfl ck_L_law_83 (Nat.le_of_ble_eq_true rfl) rfl rfl rfl
  refine sp_istore (pc := 77) (lv' := [(12, .int y1.1), (10, .long s0), (0, .ref v0), (1, .ref v1), (2, .int v2), (3, .int v3), (4, .int v4), (5, .int v5), (6, .int v6), (7, .int v7), (8, .long v8)]) dL_law_77 (by decide) rfl ?_
  refine sp_aload_n (pc := 79) dL_law_79 3 rfl ?_
  refine sp_iconst (pc := 80) (v := 0) dL_law_80 (by decide) ?_
  obtain ⟨y2, ey2, hf⟩ := ob hf
  obtain ⟨r3, er3, hf⟩ := ob hf
  obtain ⟨fsy2, hoy2⟩ := o_X7_about ey2
  refine sp_callVi (pc := 81) (z := M_X7_about) (As := [.int 0]) (b := v1) (bc2 := bc) (bs2 := bs) (m_X7_about (Q := _) (fun sz => ⟨r3, outT_e er3, ?_⟩) (rt_no er3) ey2) rfl dL_law_81 hoy2 rfl rfl ck_L_law_8 (Nat.le_of_ble_eq_true rfl) rfl rfl rfl
  refine sp_iload (pc := 84) dL_law_84 8 rfl ?_
  refine sp_icmp_le (pc := 86) (tgt := 93) dL_law_86 (by decide) (fun c4 => ?_) (fun c4 => ?_)
  · rw [if_pos c4] at hf
    refine sp_iconst (pc := 93) (v := 0) dL_law_93 (by decide) ?_
    exact sp_sub [2, 3, 4, 5, 6, 7, 8, 9, 10, 1, 0] rfl (w_L_law_94 hQ hX hk10 hf)
  · rw [if_neg c4] at hf
    refine sp_iconst (pc := 89) (v := 1) dL_law_89 (by decide) ?_
    refine sp_goto (pc := 90) (tgt := 94) dL_law_90 (by decide) ?_
    exact sp_sub [2, 3, 4, 5, 6, 7, 8, 9, 10, 1, 0] rfl (w_L_law_94 hQ hX hk10 hf)

theorem wc_L_law_10 {l : Launch} {X : SCR} {Q : PST} {res : Int32} (hQ : ∀ (h' : HP) (sz' : Nat), Q (.inl (some (.int res))) h' sz') {L : Nat} {xs : Nat → Int32} {v0 : Nat} (hX : X.1 = some (v0, L, xs)) {k10 : HP → Nat → Nat → Nat → Int32 → Option (Int32)} (hk10 : ∀ (h : HP) (bc bs : Nat) (v1 : Nat) (v2 : Int32) (sz : Nat), k10 h bc bs v1 v2 = some res → SP l X M_L_law 10 [(0, .ref v0), (1, .ref v1), (2, .int v2)] [] h sz bc bs Q) {h : HP} {bc bs : Nat} {v1 : Nat} {v2 : Int32} {sz : Nat} (hf : c_L_law_10 L xs v0 k10 h bc bs v1 v2 = some res) : SP l X M_L_law 10 [(0, .ref v0), (1, .ref v1), (2, .int v2)] [] h sz bc bs Q := by
  rw [c_L_law_10] at hf
  refine sp_iload_n (pc := 10) dL_law_10 2 rfl ?_
  refine sp_bipush (pc := 11) (v := 60) dL_law_11 (by decide) ?_
  refine sp_icmp_ge (pc := 13) (tgt := 261) dL_law_13 (by decide) (fun c1 => ?_) (fun c1 => ?_)
  · rw [if_pos c1] at hf
    refine sp_iconst (pc := 261) (v := 1) dL_law_261 (by decide) ?_
    obtain rfl := Option.some.inj hf
    exact sp_ireturn (pc := 262) dL_law_262 rfl rfl (hQ _ _)
  · rw [if_neg c1] at hf
    refine sp_aload_n (pc := 16) dL_law_16 0 rfl ?_
    refine sp_iload_n (pc := 17) dL_law_17 2 rfl ?_
    obtain ⟨y2, ey2, hf⟩ := ob hf
    refine sp_callSs (pc := 18) (z := M_L_cell) (As := [.ref v0, .int v2]) (bc2 := bc) (bs2 := bs) hX (m_L_cell (Q := _) (fun sz => ⟨y2, rfl, ?_⟩) ey2) rfl dL_law_18 rfl ck_L_law_79 (Nat.le_of_ble_eq_true rfl) rfl rfl rfl
    refine sp_istore_n (pc := 21) (lv' := [(3, .int y2), (0, .ref v0), (1, .ref v1), (2, .int v2)]) dL_law_21 (by decide) rfl ?_
    refine sp_iload_n (pc := 22) dL_law_22 0 rfl ?_
    refine sp_bipush (pc := 23) (v := 15) dL_law_23 (by decide) ?_
    refine sp_iand (pc := 25) dL_law_25 ?_
    refine sp_istore (pc := 26) (lv' := [(4, .int (y2 &&& 15)), (3, .int y2), (0, .ref v0), (1, .ref v1), (2, .int v2)]) dL_law_26 (by decide) rfl ?_
    refine sp_aload_n (pc := 28) dL_law_28 3 rfl ?_
    refine sp_iconst (pc := 29) (v := 4) dL_law_29 (by decide) ?_
    obtain ⟨y3, ey3, hf⟩ := ob hf
    obtain ⟨r4, er4, hf⟩ := ob hf
    obtain ⟨fsy3, hoy3⟩ := o_X7_about ey3
    refine sp_callVi (pc := 30) (z := M_X7_about) (As := [.int 4]) (b := v1) (bc2 := bc) (bs2 := bs) (m_X7_about (Q := _) (fun sz => ⟨r4, outT_e er4, ?_⟩) (rt_no er4) ey3) rfl dL_law_30 hoy3 rfl rfl ck_L_law_8 (Nat.le_of_ble_eq_true rfl) rfl rfl rfl
    refine sp_istore (pc := 33) (lv' := [(5, .int r4), (4, .int (y2 &&& 15)), (3, .int y2), (0, .ref v0), (1, .ref v1), (2, .int v2)]) dL_law_33 (by decide) rfl ?_
    refine sp_aload_n (pc := 35) dL_law_35 4 rfl ?_
    refine sp_iconst (pc := 36) (v := 0) dL_law_36 (by decide) ?_
    obtain ⟨y5, ey5, hf⟩ := ob hf
    obtain ⟨r6, er6, hf⟩ := ob hf
    obtain ⟨fsy5, hoy5⟩ := o_X7_about ey5
    refine sp_callVi (pc := 37) (z := M_X7_about) (As := [.int 0]) (b := v1) (bc2 := bc) (bs2 := bs) (m_X7_about (Q := _) (fun sz => ⟨r6, outT_e er6, ?_⟩) (rt_no er6) ey5) rfl dL_law_37 hoy5 rfl rfl ck_L_law_8 (Nat.le_of_ble_eq_true rfl) rfl rfl rfl
    refine sp_istore (pc := 40) (lv' := [(6, .int r6), (5, .int r4), (4, .int (y2 &&& 15)), (3, .int y2), (0, .ref v0), (1, .ref v1), (2, .int v2)]) dL_law_40 (by decide) rfl ?_
    refine sp_aload_n (pc := 42) dL_law_42 5 rfl ?_
    refine sp_iconst (pc := 43) (v := 3) dL_law_43 (by decide) ?_
    obtain ⟨y7, ey7, hf⟩ := ob hf
    obtain ⟨r8, er8, hf⟩ := ob hf
    obtain ⟨fsy7, hoy7⟩ := o_X7_about ey7
    refine sp_callVi (pc := 44) (z := M_X7_about) (As := [.int 3]) (b := v1) (bc2 := bc) (bs2 := bs) (m_X7_about (Q := _) (fun sz => ⟨r8, outT_e er8, ?_⟩) (rt_no er8) ey7) rfl dL_law_44 hoy7 rfl rfl ck_L_law_8 (Nat.le_of_ble_eq_true rfl) rfl rfl rfl
    refine sp_istore (pc := 47) (lv' := [(7, .int r8), (6, .int r6), (5, .int r4), (4, .int (y2 &&& 15)), (3, .int y2), (0, .ref v0), (1, .ref v1), (2, .int v2)]) dL_law_47 (by decide) rfl ?_
    refine sp_aload_n (pc := 49) dL_law_49 6 rfl ?_
    refine sp_iconst (pc := 50) (v := (-1)) dL_law_50 (by decide) ?_
    obtain ⟨y9, ey9, hf⟩ := ob hf
    refine sp_callSl (pc := 51) (z := M_L_tale) (As := [.ref v1, .int (-1)]) (bc2 := bc) (bs2 := bs) (m_L_tale (Q := _) (fun sz => ⟨y9, rfl, ?_⟩) ey9) rfl dL_law_51 rfl ck_L_law_71 (Nat.le_of_ble_eq_true rfl) rfl rfl rfl
    refine sp_lstore (pc := 54) (lv' := [(8, .long y9), (7, .int r8), (6, .int r6), (5, .int r4), (4, .int (y2 &&& 15)), (3, .int y2), (0, .ref v0), (1, .ref v1), (2, .int v2)]) dL_law_54 (by decide) rfl ?_
    refine sp_iload (pc := 56) dL_law_56 1 rfl ?_
    refine sp_if_le (pc := 58) (tgt := 69) dL_law_58 (by decide) (fun c10 => ?_) (fun c10 => ?_)
    · rw [if_pos c10] at hf
      refine sp_lconst (pc := 69) (v := 0) dL_law_69 (by decide) ?_
      exact sp_sub [6, 7, 8, 5, 4, 3, 2, 1, 0] rfl (w_L_law_70 hQ hX hk10 hf)
    · rw [if_neg c10] at hf
      refine sp_aload_n (pc := 61) dL_law_61 7 rfl ?_
      refine sp_iconst (pc := 62) (v := 0) dL_law_62 (by decide) ?_
      obtain ⟨y11, ey11, hf⟩ := ob hf
      refine sp_callSl (pc := 63) (z := M_L_tale) (As := [.ref v1, .int 0]) (bc2 := bc) (bs2 := bs) (m_L_tale (Q := _) (fun sz => ⟨y11, rfl, ?_⟩) ey11) rfl dL_law_63 rfl ck_L_law_71 (Nat.le_of_ble_eq_true rfl) rfl rfl rfl
      refine sp_goto (pc := 66) (tgt := 70) dL_law_66 (by decide) ?_
      exact sp_sub [6, 7, 8, 5, 4, 3, 2, 1, 0] rfl (w_L_law_70 hQ hX hk10 hf)

theorem w_L_law_10 {l : Launch} {X : SCR} {Q : PST} {res : Int32} (hQ : ∀ (h' : HP) (sz' : Nat), Q (.inl (some (.int res))) h' sz') {L : Nat} {xs : Nat → Int32} {v0 : Nat} (hX : X.1 = some (v0, L, xs)) : ∀ (n : Nat) {h : HP} {bc bs : Nat} {v1 : Nat} {v2 : Int32} {sz : Nat}, b_L_law_10 L xs v0 n h bc bs v1 v2 = some res → SP l X M_L_law 10 [(0, .ref v0), (1, .ref v1), (2, .int v2)] [] h sz bc bs Q := by
  intro n
  induction n with
  | zero =>
    intro h bc bs v1 v2 sz hf
    rw [b_L_law_10] at hf
    cases hf
  | succ n ih =>
    intro h bc bs v1 v2 sz hf
    rw [b_L_law_10] at hf
    exact wc_L_law_10 hQ hX (fun h bc bs v1 v2 sz hf => ih hf) hf

theorem w_L_law_0 {l : Launch} {X : SCR} {Q : PST} {res : Int32} {h : HP} {bc bs : Nat} (hQ : ∀ (h' : HP) (sz' : Nat), Q (.inl (some (.int res))) h' sz') {q0 : Nat} {L : Nat} {xs : Nat → Int32} {v0 : Nat} (hX : X.1 = some (v0, L, xs)) (hf : b_L_law_0 q0 L xs v0 h bc bs  = some res) : SP l X M_L_law 0 [(0, .ref v0)] [] h q0 bc bs Q := by
  rw [b_L_law_0] at hf
  obtain ⟨b2, eb2, hf⟩ := ob hf
  obtain ⟨b3, eb3, hf⟩ := ob hf
  obtain ⟨h1, eh1, hf⟩ := ob hf
  obtain rfl := Option.some.inj eh1
  refine sp_new (pc := 0) (bc2 := b2) (bs2 := b3) nw_RL_9 dL_law_0 (tk_spec eb2) (tk_spec eb3) (fun hfr => ?_)
  refine sp_dup (pc := 3) dL_law_3 rfl ?_
  obtain ⟨b5, eb5, hf⟩ := ob hf
  obtain ⟨b6, eb6, hf⟩ := ob hf
  obtain ⟨y4, ey4, hf⟩ := ob hf
  refine sp_callIv (pc := 4) (z := M_X7_init) (As := []) (b := q0) (bc2 := b5) (bs2 := b6) (m_X7_init (Q := _) ⟨(), rfl, ?_⟩ ey4) rfl rfl rfl dL_law_4 rfl ck_L_law_78 (Nat.le_of_ble_eq_true rfl) (tk_spec eb5) (tk_spec eb6) rfl
  refine sp_astore_n (pc := 7) (lv' := [(1, .ref q0), (0, .ref v0)]) dL_law_7 (by decide) rfl ?_
  refine sp_iconst (pc := 8) (v := 0) dL_law_8 (by decide) ?_
  refine sp_istore_n (pc := 9) (lv' := [(2, .int 0), (1, .ref q0), (0, .ref v0)]) dL_law_9 (by decide) rfl ?_
  exact sp_sub [2, 1, 0] rfl (w_L_law_10 hQ hX FU hf)

