/-! the reference: may a write be made; a grave and its count -/
def putF (S : SG) (k v : Int) : Int := if ¬ (0 ≤ k ∧ k ≤ 99) then 1 else if ¬ (1 ≤ v ∧ v ≤ 999) then 2 else if S.1.length = 48 then 3 else 0
def buryF (S : SG) (p q : Int) : Int := if ¬ (0 ≤ p ∧ p ≤ 99) ∨ ¬ (0 ≤ q ∧ q ≤ 99) then 1 else if q < p then 2 else if S.1.length = 48 then 3 else 0
theorem X8_putFault_is {h : HP} {m : Nat} {S : SG} (e : REF h m S) {k v : Int} (hk : -2147483648 ≤ k ∧ k < 2147483648) (hv : -2147483648 ≤ v ∧ v < 2147483648) : f_X8_putFault h m (zI k) (zI v) = some (zI (putF S k v)) := by
  have hb := REF_b e
  unfold f_X8_putFault b_X8_putFault_0 putF
  rw [hb.2, Option.bind_some, X8_isKey_is h hk, Option.bind_some]
  by_cases c1 : 0 ≤ k ∧ k ≤ 99
  · rw [tB_1 c1, if_neg (by decide), if_neg (fun d => d c1)]
    rw [show f_X8_in h (zI v) 1 999 = f_X8_in h (zI v) (zI 1) (zI 999) from rfl, X8_in_is h hv (by omega) (by omega), Option.bind_some]
    by_cases c2 : 1 ≤ v ∧ v ≤ 999
    · rw [tB_1 c2, if_neg (by decide), if_neg (fun d => d c2), X8_all_is e, Option.bind_some, show (48 : Int32) = zI 48 by decide]
      by_cases c3 : S.1.length = 48
      · rw [if_pos ((zI_inj (by omega)).mpr (by omega)), if_pos c3]
        rfl
      · rw [if_neg (fun d => c3 (by have := (zI_inj (by omega)).mp d; omega)), if_neg c3]
        rfl
    · rw [tB_0 c2, if_pos rfl, if_pos c2]
      rfl
  · rw [tB_0 c1, if_pos rfl, if_pos c1]
    rfl
theorem X8_buryFault_is {h : HP} {m : Nat} {S : SG} (e : REF h m S) {p q : Int} (hp : -2147483648 ≤ p ∧ p < 2147483648) (hq : -2147483648 ≤ q ∧ q < 2147483648) : f_X8_buryFault h m (zI p) (zI q) = some (zI (buryF S p q)) := by
  have hb := REF_b e
  unfold f_X8_buryFault b_X8_buryFault_0 buryF
  rw [hb.2, Option.bind_some, X8_isKey_is h hp, Option.bind_some]
  by_cases c1 : 0 ≤ p ∧ p ≤ 99
  · rw [tB_1 c1, if_neg (by decide), X8_isKey_is h hq, Option.bind_some]
    by_cases c2 : 0 ≤ q ∧ q ≤ 99
    · rw [tB_1 c2, if_neg (by decide), if_neg (show ¬ (¬ (0 ≤ p ∧ p ≤ 99) ∨ ¬ (0 ≤ q ∧ q ≤ 99)) by omega)]
      by_cases c3 : p ≤ q
      · rw [if_pos ((zI_le (by omega)).mpr c3), if_neg (show ¬ q < p by omega), X8_all_is e, Option.bind_some, show (48 : Int32) = zI 48 by decide]
        by_cases c4 : S.1.length = 48
        · rw [if_pos ((zI_inj (by omega)).mpr (by omega)), if_pos c4]
          rfl
        · rw [if_neg (fun d => c4 (by have := (zI_inj (by omega)).mp d; omega)), if_neg c4]
          rfl
      · rw [if_neg (fun d => c3 ((zI_le (by omega)).mp d)), if_pos (show q < p by omega)]
        rfl
    · rw [tB_0 c2, if_pos rfl, if_pos (Or.inr c2)]
      rfl
  · rw [tB_0 c1, if_pos rfl, if_pos (Or.inl c1)]
    rfl
theorem X8_buries_is {h : HP} {m : Nat} {S : SG} (e : REF h m S) (hw : WSOK S.1) (ho : ORD S.1) {M : Int} (hy : YOK S.2.2.1 M) (hl : 0 ≤ S.2.2.2.1 ∧ S.2.2.2.1 ≤ M) (hM : M < 1000000) {s t : Int} (hs : 0 ≤ s ∧ s ≤ t) (ht : t < 100) (hf : S.1.length < 48) : WP (f_X8_buries h m (zI s) (zI t)) (fun r => r.1 = zI (cnt (fun k => vw S k (-1) ≠ 0) s.toNat (t + 1 - s).toNat) ∧ REF r.2 m (S.1 ++ [(S.2.2.2.1 + 1, s, t, 0)], S.2.1, S.2.2.1, S.2.2.2.1 + 1, S.2.2.2.2) ∧ OFF (m + 1) 1 h r.2) := by
  have hb := REF_b e
  unfold f_X8_buries b_X8_buries_0
  rw [zl0, zl1, zI_neg]
  refine wb hb.2 ?_
  refine wb (X8_countSeen_is e hw ho hy hl hM hs ht (by omega)) ?_
  refine wpb (X8_writes_is e hf s t 0) ?_
  rintro ⟨r, h'⟩ ⟨q1, q2, q3⟩
  exact wr ⟨rfl, q2, q3⟩
