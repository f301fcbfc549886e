/-! the layer over the machine: worlds as functions, one judgement SP for a method's body, rows for each instruction -/
-- worlds
abbrev CE : Type := (Nat × vp_A) ⊕ (Nat × List Value)
abbrev HP : Type := Nat → Option CE
abbrev HS : Type := List (Nat × CE)
def cvE (cA : Nat → ClassId) (e : CE) : va_E := match e with
  | .inl x => .inl (cA x.1, x.2)
  | .inr o => .inr o
def cvS (cA : Nat → ClassId) (hs : HS) : va_W := hs.map (fun q => (q.1, cvE cA q.2))
def hget (hs : HS) : HP := fun a => (hs.find? (fun q => q.1 == a)).map (fun q => q.2)
def hup (h : HP) (a : Nat) (e : CE) : HP := fun b => if b = a then some e else h b
def kTy (k : Nat) : FieldType := if k = 0 then .int else if k = 1 then .boolean else if k = 2 then .long else if k = 3 then .object RX2 else .object RX3
def tysL (cA : Nat → ClassId) : List (ClassId × FieldType) := (List.range 5).map (fun k => (cA k, kTy k))
theorem tysL_at {cA : Nat → ClassId} {k : Nat} (h : k < 5) : (tysL cA)[k]? = some (cA k, kTy k) := by
  simp [tysL, h]
theorem cvS_at {cA : Nat → ClassId} {hs : HS} {k : Nat} {q : Nat × CE} (h : hs[k]? = some q) : (cvS cA hs)[k]? = some (q.1, cvE cA q.2) := by
  simp [cvS, h]
theorem cvS_at' {cA : Nat → ClassId} {hs : HS} {k : Nat} {q : Nat × va_E} (h : (cvS cA hs)[k]? = some q) : ∃ q', hs[k]? = some q' ∧ q = (q'.1, cvE cA q'.2) := by
  simp [cvS] at h
  obtain ⟨a, b, h1, h2⟩ := h
  exact ⟨(a, b), h1, h2.symm⟩
theorem hget_at {hs : HS} {a : Nat} {e : CE} (h : hget hs a = some e) : ∃ k : Nat, hs[k]? = some (a, e) := by
  simp only [hget, Option.map_eq_some_iff] at h
  obtain ⟨q, h1, h2⟩ := h
  have h3 := List.find?_some h1
  have h4 := List.mem_of_find?_eq_some h1
  simp at h3
  obtain ⟨k, hk⟩ := List.getElem?_of_mem h4
  refine ⟨k, ?_⟩
  rw [hk]
  obtain ⟨a', e'⟩ := q
  simp at h2 h3
  rw [h2, h3]
/-- addresses are apart -/
def hnd (hs : HS) : Prop := ∀ (i j : Nat) (p q : Nat × CE), hs[i]? = some p → hs[j]? = some q → p.1 = q.1 → i = j
theorem hnd_of {cA : Nat → ClassId} {A : Nat → Prop} {hs : HS} (h : va_D A (cvS cA hs)) : hnd hs := fun i j p q hi hj e => h.1 i j _ _ (cvS_at hi) (cvS_at hj) e
theorem hget_of {hs : HS} (hn : hnd hs) {k a : Nat} {e : CE} (h : hs[k]? = some (a, e)) : hget hs a = some e := by
  have hm : (a, e) ∈ hs := List.mem_of_getElem? h
  unfold hget
  cases hf : hs.find? (fun q => q.1 == a) with
  | none => exact absurd (List.find?_eq_none.mp hf _ hm) (by simp)
  | some q =>
    have h3 := List.find?_some hf
    obtain ⟨j, hj⟩ := List.getElem?_of_mem (List.mem_of_find?_eq_some hf)
    simp at h3
    have hkj := hn k j _ _ h hj h3.symm
    subst hkj
    rw [h] at hj
    cases hj
    rfl
theorem hget_none {hs : HS} {a : Nat} (h : ∀ (k : Nat) (q : Nat × CE), hs[k]? = some q → q.1 ≠ a) : hget hs a = none := by
  unfold hget
  rw [List.find?_eq_none.mpr]
  · rfl
  · intro q hq
    obtain ⟨k, hk⟩ := List.getElem?_of_mem hq
    simpa using h k q hk
theorem hget_set {hs : HS} (hn : hnd hs) {k a : Nat} {e e' : CE} (h : hs[k]? = some (a, e)) : hnd (hs.set k (a, e')) ∧ hget (hs.set k (a, e')) = hup (hget hs) a e' := by
  have hlt : k < hs.length := (List.getElem?_eq_some_iff.mp h).1
  have hn' : hnd (hs.set k (a, e')) := by
    intro i j p q hi hj hpq
    rw [List.getElem?_set] at hi hj
    by_cases hik : k = i
    · by_cases hjk : k = j
      · rw [← hik, ← hjk]
      · rw [if_pos hik, if_pos hlt] at hi
        rw [if_neg hjk] at hj
        cases hi
        subst hik
        exact hn _ _ _ _ h hj hpq
    · rw [if_neg hik] at hi
      by_cases hjk : k = j
      · rw [if_pos hjk, if_pos hlt] at hj
        cases hj
        subst hjk
        exact hn _ _ _ _ hi h hpq
      · rw [if_neg hjk] at hj
        exact hn _ _ _ _ hi hj hpq
  refine ⟨hn', ?_⟩
  funext b
  unfold hup
  by_cases hb : b = a
  · rw [if_pos hb, hb]
    exact hget_of hn' (k := k) (by rw [List.getElem?_set, if_pos rfl, if_pos hlt])
  · rw [if_neg hb]
    cases hg : hget hs b with
    | none =>
      refine hget_none fun j q hj hq => ?_
      rw [List.getElem?_set] at hj
      by_cases hjk : k = j
      · rw [if_pos hjk, if_pos hlt] at hj
        cases hj
        exact hb hq.symm
      · rw [if_neg hjk] at hj
        have h9 := hget_of hn (k := j) (a := q.1) (e := q.2) hj
        rw [hq, hg] at h9
        cases h9
    | some e2 =>
      obtain ⟨j, hj⟩ := hget_at hg
      have hjk : k ≠ j := fun z => by subst z; rw [h] at hj; cases hj; exact hb rfl
      exact hget_of hn' (k := j) (by rw [List.getElem?_set, if_neg hjk]; exact hj)
theorem hget_push {hs : HS} {a : Nat} {e : CE} (hn : hnd (hs ++ [(a, e)])) : hget (hs ++ [(a, e)]) = hup (hget hs) a e := by
  have hn0 : hnd hs := by
    intro i j p q hi hj
    refine hn i j p q ?_ ?_
    · rw [List.getElem?_append_left (List.getElem?_eq_some_iff.mp hi).1]; exact hi
    · rw [List.getElem?_append_left (List.getElem?_eq_some_iff.mp hj).1]; exact hj
  have hlast : (hs ++ [(a, e)])[hs.length]? = some (a, e) := by simp
  funext b
  unfold hup
  by_cases hb : b = a
  · rw [if_pos hb, hb]
    exact hget_of hn hlast
  · rw [if_neg hb]
    cases hg : hget hs b with
    | none =>
      refine hget_none fun j q hj hq => ?_
      rcases Nat.lt_or_ge j hs.length with z | z
      · rw [List.getElem?_append_left z] at hj
        have h9 := hget_of hn0 (k := j) (a := q.1) (e := q.2) hj
        rw [hq, hg] at h9
        cases h9
      · rw [List.getElem?_append_right z] at hj
        cases hz : j - hs.length with
        | zero => rw [hz] at hj; simp at hj; subst hj; exact hb hq.symm
        | succ n => rw [hz] at hj; simp at hj
    | some e2 =>
      obtain ⟨j, hj⟩ := hget_at hg
      exact hget_of hn (k := j) (by rw [List.getElem?_append_left (List.getElem?_eq_some_iff.mp hj).1]; exact hj)
theorem cvS_set {cA : Nat → ClassId} {hs : HS} {k a : Nat} {e : CE} : (cvS cA hs).set k (a, cvE cA e) = cvS cA (hs.set k (a, e)) := by
  simp [cvS, List.map_set]
theorem cvS_push {cA : Nat → ClassId} {hs : HS} {a : Nat} {e : CE} : cvS cA hs ++ [(a, cvE cA e)] = cvS cA (hs ++ [(a, e)]) := by
  simp [cvS]
