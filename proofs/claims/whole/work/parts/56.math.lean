/-! cleaning, on lists -/
def exB (P : Nat → Bool) (p : Nat) : Nat → Bool
  | 0 => false
  | n + 1 => P p || exB P (p + 1) n
theorem exB_succ (P : Nat → Bool) (p n : Nat) : exB P p (n + 1) = (P p || exB P (p + 1) n) := rfl
theorem exB_iff {P : Nat → Bool} {p n : Nat} : exB P p n = true ↔ ∃ i, p ≤ i ∧ i < p + n ∧ P i = true := by
  induction n generalizing p with
  | zero =>
    constructor
    · intro h
      exact absurd (show false = true from h) (by decide)
    · rintro ⟨i, h1, h2, -⟩
      omega
  | succ n ih =>
    rw [exB_succ, Bool.or_eq_true, ih]
    constructor
    · rintro (h | ⟨i, h1, h2, h3⟩)
      · exact ⟨p, by omega, by omega, h⟩
      · exact ⟨i, by omega, by omega, h3⟩
    · rintro ⟨i, h1, h2, h3⟩
      by_cases c : i = p
      · exact Or.inl (c ▸ h3)
      · exact Or.inr ⟨i, by omega, by omega, h3⟩
theorem Beq {a b : Bool} (h : a = true ↔ b = true) : a = b := by
  cases a <;> cases b <;> simp_all
theorem exB_c {P Q : Nat → Bool} {p n : Nat} (h : ∀ i, p ≤ i → i < p + n → P i = Q i) : exB P p n = exB Q p n := by
  refine Beq (exB_iff.trans (Iff.trans ?_ exB_iff.symm))
  constructor
  · rintro ⟨i, h1, h2, h3⟩
    exact ⟨i, h1, h2, (h i h1 h2) ▸ h3⟩
  · rintro ⟨i, h1, h2, h3⟩
    exact ⟨i, h1, h2, (h i h1 h2).symm ▸ h3⟩
theorem exB_0 {P : Nat → Bool} {p n : Nat} (h : ∀ i, p ≤ i → i < p + n → P i = false) : exB P p n = false := by
  refine Beq (exB_iff.trans ⟨?_, fun d => absurd d (by decide)⟩)
  rintro ⟨i, h1, h2, h3⟩
  rw [h i h1 h2] at h3
  exact h3
theorem exB_last (P : Nat → Bool) (p n : Nat) : exB P p (n + 1) = (exB P p n || P (p + n)) := by
  induction n generalizing p with
  | zero =>
    rw [exB_succ]
    show (P p || false) = (false || P p)
    rw [Bool.or_false, Bool.false_or]
  | succ n ih => rw [exB_succ, ih, exB_succ, Bool.or_assoc, show p + 1 + n = p + (n + 1) by omega]
theorem cnt_mono {P Q : Nat → Prop} [DecidablePred P] [DecidablePred Q] {p n : Nat} (h : ∀ i, p ≤ i → i < p + n → P i → Q i) : cnt P p n ≤ cnt Q p n := by
  induction n generalizing p with
  | zero => exact Int.le_refl _
  | succ n ih =>
    have h1 := ih (p := p + 1) (fun i h1 h2 => h i (by omega) (by omega))
    have h2 := h p (Nat.le_refl _) (by omega)
    rw [cnt_succ, cnt_succ]
    by_cases c : P p
    · rw [if_pos c, if_pos (h2 c)]
      omega
    · rw [if_neg c]
      split <;> omega
theorem eB_mono (Y : List Int) {a b : Int} (h : a ≤ b) : eB Y a ≤ eB Y b := by
  unfold eB
  exact cnt_mono fun i _ _ h1 => by omega
theorem eB_rng (Y : List Int) (a : Int) : 0 ≤ eB Y a ∧ eB Y a ≤ Y.length := cnt_b _ _ _
theorem part_cnt (Y : List Int) {a b : Int} (h : a ≤ b) (p n : Nat) : cnt (fun i => iat Y i < a) p n ≤ cnt (fun i => iat Y i < b) p n ∧ (exB (fun i => decide (a ≤ iat Y i) && decide (iat Y i < b)) p n = true ↔ cnt (fun i => iat Y i < a) p n < cnt (fun i => iat Y i < b) p n) := by
  induction n generalizing p with
  | zero => exact ⟨Int.le_refl _, fun d => absurd (show false = true from d) (by decide), fun d => absurd d (by show ¬ (0 : Int) < 0; omega)⟩
  | succ n ih =>
    obtain ⟨h1, h2⟩ := ih (p + 1)
    rw [cnt_succ, cnt_succ, exB_succ, Bool.or_eq_true, h2, Bool.and_eq_true, decide_eq_true_eq, decide_eq_true_eq]
    by_cases c1 : iat Y p < a
    · rw [if_pos c1, if_pos (by omega)]
      omega
    · by_cases c2 : iat Y p < b
      · rw [if_neg c1, if_pos c2]
        omega
      · rw [if_neg c1, if_neg c2]
        omega
theorem part_iff (Y : List Int) {a b : Int} (h : a ≤ b) : exB (fun i => decide (a ≤ iat Y i) && decide (iat Y i < b)) 0 Y.length = true ↔ eB Y b ≠ eB Y a := by
  obtain ⟨h1, h2⟩ := part_cnt Y h 0 Y.length
  rw [h2]
  unfold eB
  omega
def wcB (w : WR) (k : Int) : Bool := decide (w.2.1 ≤ k ∧ k ≤ w.2.2.1)
theorem wcB_iff {w : WR} {k : Int} : wcB w k = true ↔ w.2.1 ≤ k ∧ k ≤ w.2.2.1 := decide_eq_true_iff
def enB (w : WR) : Bool := decide (0 < w.2.2.2)
theorem enB_iff {w : WR} : enB w = true ↔ 0 < w.2.2.2 := decide_eq_true_iff
/-- write i hides key k of write j -/
def hidB (ws : List WR) (Y : List Int) (j : Nat) (k : Int) (i : Nat) : Bool := decide (eB Y (wat ws i).1 = eB Y (wat ws j).1) && wcB (wat ws i) k && (enB (wat ws j) || !enB (wat ws i))
/-- behind steps 1 and 2 key k is left to write j, of the writes up to q -/
def k1B (ws : List WR) (Y : List Int) (q j : Nat) (k : Int) : Bool := wcB (wat ws j) k && !exB (hidB ws Y j k) (j + 1) (q - (j + 1))
/-- behind step 3 -/
def kpB (ws : List WR) (Y : List Int) (p q : Nat) (o : Bool) (j : Nat) (k : Int) : Bool := k1B ws Y q j k && (!o || enB (wat ws j) || exB (fun i => enB (wat ws i) && k1B ws Y q i k) p (j - p))
def rowsF (w : WR) (K : Int → Bool) (f k : Int) : Nat → List WR
  | 0 => if f = -1 then [] else [(w.1, f, k - 1, w.2.2.2)]
  | n + 1 => if K k = true then (if f = -1 then rowsF w K k (k + 1) n else rowsF w K f (k + 1) n) else (if f = -1 then rowsF w K (-1) (k + 1) n else (w.1, f, k - 1, w.2.2.2) :: rowsF w K (-1) (k + 1) n)
theorem rowsF_0 (w : WR) (K : Int → Bool) (f k : Int) : rowsF w K f k 0 = if f = -1 then [] else [(w.1, f, k - 1, w.2.2.2)] := rfl
theorem rowsF_succ (w : WR) (K : Int → Bool) (f k : Int) (n : Nat) : rowsF w K f k (n + 1) = if K k = true then (if f = -1 then rowsF w K k (k + 1) n else rowsF w K f (k + 1) n) else (if f = -1 then rowsF w K (-1) (k + 1) n else (w.1, f, k - 1, w.2.2.2) :: rowsF w K (-1) (k + 1) n) := rfl
/-- what is left of a write -/
def rws (w : WR) (K : Int → Bool) : List WR := rowsF w K (-1) w.2.1 (w.2.2.1 + 1 - w.2.1).toNat
def clF (ws : List WR) (Y : List Int) (p q : Nat) (o : Bool) (j : Nat) : Nat → List WR
  | 0 => []
  | n + 1 => rws (wat ws j) (kpB ws Y p q o j) ++ clF ws Y p q o (j + 1) n
theorem clF_succ (ws : List WR) (Y : List Int) (p q : Nat) (o : Bool) (j n : Nat) : clF ws Y p q o j (n + 1) = rws (wat ws j) (kpB ws Y p q o j) ++ clF ws Y p q o (j + 1) n := rfl
/-- the writes from p up to q, cleaned; o: there is no older run -/
def clL (ws : List WR) (Y : List Int) (p q : Nat) (o : Bool) : List WR := clF ws Y p q o p (q - p)
/-- a piece of a write -/
def PCE (w x : WR) : Prop := x.1 = w.1 ∧ (w.2.1 ≤ x.2.1 ∧ x.2.1 ≤ x.2.2.1 ∧ x.2.2.1 ≤ w.2.2.1) ∧ x.2.2.2 = w.2.2.2
def LTW (a b : WR) : Prop := a.1 < b.1 ∨ (a.1 = b.1 ∧ a.2.2.1 < b.2.1)
theorem rowsF_mem {w : WR} {K : Int → Bool} (hw : 0 ≤ w.2.1) : ∀ (n : Nat) (f k : Int), w.2.1 ≤ k → k + n = w.2.2.1 + 1 → (f = -1 ∨ (w.2.1 ≤ f ∧ f < k)) → ∀ x ∈ rowsF w K f k n, PCE w x ∧ (if f = -1 then k else f) ≤ x.2.1 := by
  intro n
  induction n with
  | zero =>
    intro f k h1 h2 h3 x hx
    rw [rowsF_0] at hx
    by_cases c : f = -1
    · rw [if_pos c] at hx
      exact absurd hx List.not_mem_nil
    · rw [if_neg c, List.mem_singleton] at hx
      subst hx
      rw [if_neg c]
      unfold PCE
      dsimp only
      omega
  | succ n ih =>
    intro f k h1 h2 h3 x hx
    rw [rowsF_succ] at hx
    by_cases c1 : K k = true
    · rw [if_pos c1] at hx
      by_cases c : f = -1
      · rw [if_pos c] at hx
        have := ih k (k + 1) (by omega) (by omega) (Or.inr (by omega)) x hx
        rw [if_neg (by omega)] at this
        rw [if_pos c]
        exact this
      · rw [if_neg c] at hx
        have := ih f (k + 1) (by omega) (by omega) (Or.inr (by omega)) x hx
        rw [if_neg c] at this
        rw [if_neg c]
        exact this
    · rw [if_neg c1] at hx
      by_cases c : f = -1
      · rw [if_pos c] at hx
        have := ih (-1) (k + 1) (by omega) (by omega) (Or.inl rfl) x hx
        rw [if_pos rfl] at this
        rw [if_pos c]
        exact ⟨this.1, by omega⟩
      · rw [if_neg c] at hx
        rw [if_neg c]
        rcases List.mem_cons.mp hx with hx | hx
        · subst hx
          unfold PCE
          dsimp only
          omega
        · have := ih (-1) (k + 1) (by omega) (by omega) (Or.inl rfl) x hx
          rw [if_pos rfl] at this
          exact ⟨this.1, by omega⟩
theorem rowsF_pw {w : WR} {K : Int → Bool} (hw : 0 ≤ w.2.1) : ∀ (n : Nat) (f k : Int), w.2.1 ≤ k → k + n = w.2.2.1 + 1 → (f = -1 ∨ (w.2.1 ≤ f ∧ f < k)) → (rowsF w K f k n).Pairwise LTW := by
  intro n
  induction n with
  | zero =>
    intro f k h1 h2 h3
    rw [rowsF_0]
    by_cases c : f = -1
    · rw [if_pos c]
      exact List.Pairwise.nil
    · rw [if_neg c]
      exact List.pairwise_singleton _ _
  | succ n ih =>
    intro f k h1 h2 h3
    rw [rowsF_succ]
    by_cases c1 : K k = true
    · rw [if_pos c1]
      by_cases c : f = -1
      · rw [if_pos c]
        exact ih k (k + 1) (by omega) (by omega) (Or.inr (by omega))
      · rw [if_neg c]
        exact ih f (k + 1) (by omega) (by omega) (Or.inr (by omega))
    · rw [if_neg c1]
      by_cases c : f = -1
      · rw [if_pos c]
        exact ih (-1) (k + 1) (by omega) (by omega) (Or.inl rfl)
      · rw [if_neg c]
        refine List.pairwise_cons.mpr ⟨fun x hx => ?_, ih (-1) (k + 1) (by omega) (by omega) (Or.inl rfl)⟩
        have := rowsF_mem hw n (-1) (k + 1) (by omega) (by omega) (Or.inl rfl) x hx
        rw [if_pos rfl] at this
        have h5 := this.1.1
        have h6 := this.2
        unfold LTW
        dsimp only
        omega
theorem rws_mem {w : WR} {K : Int → Bool} (hw : WOK w) : ∀ x ∈ rws w K, PCE w x := fun x hx => by
  unfold WOK at hw
  exact (rowsF_mem (by omega) _ _ _ (Int.le_refl _) (by omega) (Or.inl rfl) x hx).1
theorem rws_pw {w : WR} {K : Int → Bool} (hw : WOK w) : (rws w K).Pairwise LTW := by
  unfold WOK at hw
  exact rowsF_pw (by omega) _ _ _ (Int.le_refl _) (by omega) (Or.inl rfl)
theorem clF_mem {ws : List WR} {Y : List Int} {p q : Nat} {o : Bool} (hw : WSOK ws) : ∀ (n j : Nat), j + n ≤ ws.length → ∀ x ∈ clF ws Y p q o j n, ∃ i, j ≤ i ∧ i < j + n ∧ PCE (wat ws i) x := by
  intro n
  induction n with
  | zero => exact fun j _ x hx => absurd hx List.not_mem_nil
  | succ n ih =>
    intro j hj x hx
    rw [clF_succ] at hx
    rcases List.mem_append.mp hx with hx | hx
    · exact ⟨j, by omega, by omega, rws_mem (WOK_at hw (by omega)) x hx⟩
    · obtain ⟨i, h1, h2, h3⟩ := ih (j + 1) (by omega) x hx
      exact ⟨i, by omega, by omega, h3⟩
theorem LTW_pce {a b x y : WR} (h : LTW a b) (hx : PCE a x) (hy : PCE b y) : LTW x y := by
  unfold LTW PCE at *
  omega
theorem PCE_refl {w : WR} (h : WOK w) : PCE w w := by
  unfold WOK at h
  unfold PCE
  omega
theorem clF_pw {ws : List WR} {Y : List Int} {p q : Nat} {o : Bool} (hw : WSOK ws) (ho : ORD ws) : ∀ (n j : Nat), j + n ≤ ws.length → (clF ws Y p q o j n).Pairwise LTW := by
  intro n
  induction n with
  | zero => exact fun j _ => List.Pairwise.nil
  | succ n ih =>
    intro j hj
    rw [clF_succ]
    refine List.pairwise_append.mpr ⟨rws_pw (WOK_at hw (by omega)), ih (j + 1) (by omega), fun x hx y hy => ?_⟩
    obtain ⟨i, h1, h2, h3⟩ := clF_mem hw n (j + 1) (by omega) y hy
    exact LTW_pce (ho j i (by omega) (by omega)) (rws_mem (WOK_at hw (by omega)) x hx) h3
theorem ORD_pw {ws : List WR} : ORD ws ↔ ws.Pairwise LTW := by
  rw [List.pairwise_iff_getElem]
  constructor
  · intro h i j hi hj hij
    have := h i j hij hj
    rw [wat_get hi, wat_get hj] at this
    exact this
  · intro h i j hij hj
    have := h i j (by omega) hj hij
    rw [wat_get (by omega), wat_get hj]
    exact this
/-- an entry is for one key -/
def ENT (ws : List WR) : Prop := ∀ w ∈ ws, 0 < w.2.2.2 → w.2.1 = w.2.2.1
/-- all numbers are at most the latest one -/
def NUM (ws : List WR) (n : Int) : Prop := ∀ w ∈ ws, 1 ≤ w.1 ∧ w.1 ≤ n
/-- the writes when those from p up to q are cleaned -/
def wcl (ws : List WR) (Y : List Int) (p q : Nat) (o : Bool) : List WR := ws.take p ++ clL ws Y p q o ++ ws.drop q
theorem wcl_mem {ws : List WR} {Y : List Int} {p q : Nat} {o : Bool} (hw : WSOK ws) (hq : q ≤ ws.length) : ∀ x ∈ wcl ws Y p q o, ∃ w ∈ ws, PCE w x := by
  intro x hx
  unfold wcl at hx
  rcases List.mem_append.mp hx with hx | hx
  · rcases List.mem_append.mp hx with hx | hx
    · have := List.mem_of_mem_take hx
      exact ⟨x, this, PCE_refl (hw x this)⟩
    · by_cases c : p ≤ q
      · obtain ⟨i, h1, h2, h3⟩ := clF_mem hw (q - p) p (by omega) x hx
        exact ⟨wat ws i, wat_mem (by omega), h3⟩
      · unfold clL at hx
        rw [show q - p = 0 by omega] at hx
        exact absurd hx List.not_mem_nil
  · have := List.mem_of_mem_drop hx
    exact ⟨x, this, PCE_refl (hw x this)⟩
theorem wcl_WSOK {ws : List WR} {Y : List Int} {p q : Nat} {o : Bool} (hw : WSOK ws) (hq : q ≤ ws.length) : WSOK (wcl ws Y p q o) := by
  intro x hx
  obtain ⟨w, h1, h2⟩ := wcl_mem hw hq x hx
  have := hw w h1
  unfold WOK PCE at *
  omega
theorem wcl_ENT {ws : List WR} {Y : List Int} {p q : Nat} {o : Bool} (hw : WSOK ws) (he : ENT ws) (hq : q ≤ ws.length) : ENT (wcl ws Y p q o) := by
  intro x hx h0
  obtain ⟨w, h1, h2⟩ := wcl_mem hw hq x hx
  have := he w h1
  unfold PCE at *
  omega
theorem wcl_NUM {ws : List WR} {Y : List Int} {p q : Nat} {o : Bool} {n : Int} (hw : WSOK ws) (he : NUM ws n) (hq : q ≤ ws.length) : NUM (wcl ws Y p q o) n := by
  intro x hx
  obtain ⟨w, h1, h2⟩ := wcl_mem hw hq x hx
  have := he w h1
  unfold PCE at *
  omega
theorem wcl_ORD {ws : List WR} {Y : List Int} {p q : Nat} {o : Bool} (hw : WSOK ws) (ho : ORD ws) (hp : p ≤ q) (hq : q ≤ ws.length) : ORD (wcl ws Y p q o) := by
  have h0 := ORD_pw.mp ho
  unfold wcl
  rw [ORD_pw]
  refine List.pairwise_append.mpr ⟨List.pairwise_append.mpr ⟨List.Pairwise.sublist (List.take_sublist _ _) h0, clF_pw hw ho _ _ (by omega), fun x hx y hy => ?_⟩, List.Pairwise.sublist (List.drop_sublist _ _) h0, fun x hx y hy => ?_⟩
  · obtain ⟨i, h1, h2, h3⟩ := clF_mem hw (q - p) p (by omega) y hy
    obtain ⟨a, ha, rfl⟩ := List.getElem_of_mem hx
    rw [List.length_take] at ha
    rw [List.getElem_take, ← wat_get (by omega)]
    exact LTW_pce (ho a i (by omega) (by omega)) (PCE_refl (WOK_at hw (by omega))) h3
  · obtain ⟨b, hb, rfl⟩ := List.getElem_of_mem hy
    rw [List.length_drop] at hb
    rw [List.getElem_drop, ← wat_get (by omega)]
    rcases List.mem_append.mp hx with hx | hx
    · obtain ⟨a, ha, rfl⟩ := List.getElem_of_mem hx
      rw [List.length_take] at ha
      rw [List.getElem_take, ← wat_get (by omega)]
      exact ho a (q + b) (by omega) (by omega)
    · obtain ⟨i, h1, h2, h3⟩ := clF_mem hw (q - p) p (by omega) x hx
      exact LTW_pce (ho i (q + b) (by omega) (by omega)) h3 (PCE_refl (WOK_at hw (by omega)))
