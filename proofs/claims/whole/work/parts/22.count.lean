/-! COUNTING: how many of i, i+1, .. (k of them) are so -/
def cn (q : Int → Bool) : Nat → Int → Int
  | 0, _ => 0
  | k + 1, i => (if q i = true then 1 else 0) + cn q k (i + 1)
theorem cn_nn (q : Int → Bool) : ∀ (k : Nat) (i : Int), 0 ≤ cn q k i ∧ cn q k i ≤ k := by
  intro k
  induction k with
  | zero => intro i; simp [cn]
  | succ k ih => intro i; have := ih (i + 1); simp only [cn]; split <;> omega
theorem cn_cong {q q' : Int → Bool} : ∀ (k : Nat) (i : Int), (∀ j, i ≤ j → j < i + k → q j = q' j) → cn q k i = cn q' k i := by
  intro k
  induction k with
  | zero => intro i _; rfl
  | succ k ih =>
    intro i hq
    simp only [cn]
    rw [hq i (by omega) (by omega), ih (i + 1) (fun j h1 h2 => hq j (by omega) (by omega))]
theorem cn_add (q : Int → Bool) : ∀ (a b : Nat) (i : Int), cn q (a + b) i = cn q a i + cn q b (i + a) := by
  intro a
  induction a with
  | zero => intro b i; simp [cn]
  | succ a ih =>
    intro b i
    rw [show a + 1 + b = (a + b) + 1 by omega]
    simp only [cn, ih]
    rw [show i + ((a + 1 : Nat) : Int) = i + 1 + a by omega]
    omega
theorem cn_last (q : Int → Bool) (k : Nat) (i : Int) : cn q (k + 1) i = cn q k i + (if q (i + k) = true then 1 else 0) := by
  rw [cn_add]
  simp only [cn]
  omega
theorem cn_all {q : Int → Bool} : ∀ (k : Nat) (i : Int), (∀ j, i ≤ j → j < i + k → q j = true) → cn q k i = k := by
  intro k
  induction k with
  | zero => intro i _; simp [cn]
  | succ k ih =>
    intro i hq
    simp only [cn]
    rw [if_pos (hq i (by omega) (by omega)), ih (i + 1) (fun j h1 h2 => hq j (by omega) (by omega))]
    omega
theorem cn_none {q : Int → Bool} : ∀ (k : Nat) (i : Int), (∀ j, i ≤ j → j < i + k → q j = false) → cn q k i = 0 := by
  intro k
  induction k with
  | zero => intro i _; simp [cn]
  | succ k ih =>
    intro i hq
    simp only [cn]
    rw [hq i (by omega) (by omega), ih (i + 1) (fun j h1 h2 => hq j (by omega) (by omega))]
    simp
theorem cn_pos {q : Int → Bool} : ∀ (k : Nat) (i : Int), 0 < cn q k i ↔ ∃ j, i ≤ j ∧ j < i + k ∧ q j = true := by
  intro k
  induction k with
  | zero => intro i; simp only [cn]; constructor
            · omega
            · rintro ⟨j, h1, h2, -⟩; omega
  | succ k ih =>
    intro i
    have nn := cn_nn q k (i + 1)
    simp only [cn]
    by_cases hq : q i = true
    · rw [if_pos hq]
      exact ⟨fun _ => ⟨i, by omega, by omega, hq⟩, fun _ => by omega⟩
    · rw [if_neg hq, Int.zero_add, ih]
      constructor
      · rintro ⟨j, h1, h2, h3⟩
        exact ⟨j, by omega, by omega, h3⟩
      · rintro ⟨j, h1, h2, h3⟩
        have : j ≠ i := fun e => hq (e ▸ h3)
        exact ⟨j, by omega, by omega, h3⟩
/-! the first that is so: its value, or -1 -/
def fst (q : Int → Bool) (v : Int → Int) : Nat → Int → Int
  | 0, _ => -1
  | k + 1, i => if q i = true then v i else fst q v k (i + 1)
theorem fst_none {q : Int → Bool} {v : Int → Int} : ∀ (k : Nat) (i : Int), (∀ j, i ≤ j → j < i + k → q j = false) → fst q v k i = -1 := by
  intro k
  induction k with
  | zero => intro i _; rfl
  | succ k ih =>
    intro i hq
    simp only [fst]
    rw [hq i (by omega) (by omega), ih (i + 1) (fun j h1 h2 => hq j (by omega) (by omega))]
    simp
theorem fst_at {q : Int → Bool} {v : Int → Int} : ∀ (k : Nat) (i b : Int), i ≤ b → b < i + k → q b = true → (∀ j, i ≤ j → j < b → q j = false) → fst q v k i = v b := by
  intro k
  induction k with
  | zero => intros; omega
  | succ k ih =>
    intro i b h1 h2 h3 hq
    simp only [fst]
    by_cases e : b = i
    · subst e; rw [if_pos h3]
    · rw [hq i (by omega) (by omega), ih (i + 1) b (by omega) (by omega) h3 (fun j h1 h2 => hq j (by omega) (by omega))]
      simp
theorem fst_cases (q : Int → Bool) (v : Int → Int) : ∀ (k : Nat) (i : Int), (fst q v k i = -1 ∧ ∀ j, i ≤ j → j < i + k → q j = false) ∨ ∃ b, i ≤ b ∧ b < i + k ∧ q b = true ∧ (∀ j, i ≤ j → j < b → q j = false) ∧ fst q v k i = v b := by
  intro k
  induction k with
  | zero => intro i; exact .inl ⟨rfl, fun j h1 h2 => by omega⟩
  | succ k ih =>
    intro i
    simp only [fst]
    by_cases hq : q i = true
    · exact .inr ⟨i, by omega, by omega, hq, fun j h1 h2 => by omega, if_pos hq⟩
    · rw [if_neg hq]
      rcases ih (i + 1) with ⟨h1, h2⟩ | ⟨b, h1, h2, h3, h4, h5⟩
      · refine .inl ⟨h1, fun j g1 g2 => ?_⟩
        by_cases e : j = i
        · subst e; simpa using hq
        · exact h2 j (by omega) (by omega)
      · refine .inr ⟨b, by omega, by omega, h3, fun j g1 g2 => ?_, h5⟩
        by_cases e : j = i
        · subst e; simpa using hq
        · exact h4 j (by omega) (by omega)
theorem fst_cong {q q' : Int → Bool} {v v' : Int → Int} : ∀ (k : Nat) (i : Int), (∀ j, i ≤ j → j < i + k → q j = q' j ∧ v j = v' j) → fst q v k i = fst q' v' k i := by
  intro k
  induction k with
  | zero => intro i _; rfl
  | succ k ih =>
    intro i hq
    simp only [fst]
    rw [(hq i (by omega) (by omega)).1, (hq i (by omega) (by omega)).2, ih (i + 1) (fun j h1 h2 => hq j (by omega) (by omega))]
theorem fst_last (q : Int → Bool) (v : Int → Int) : ∀ (k : Nat) (i : Int), (∀ j, i ≤ j → j < i + k → v j ≠ -1) → fst q v (k + 1) i = if fst q v k i = -1 then (if q (i + k) = true then v (i + k) else -1) else fst q v k i := by
  intro k
  induction k with
  | zero => intro i _; simp [fst]
  | succ k ih =>
    intro i hv
    have e1 : fst q v (k + 1 + 1) i = if q i = true then v i else fst q v (k + 1) (i + 1) := rfl
    have e2 : fst q v (k + 1) i = if q i = true then v i else fst q v k (i + 1) := rfl
    by_cases hq : q i = true
    · rw [if_pos hq] at e1 e2
      rw [e1, e2, if_neg (hv i (by omega) (by omega))]
    · rw [if_neg hq] at e1 e2
      rw [e1, e2, ih (i + 1) (fun j h1 h2 => hv j (by omega) (by omega)), show i + 1 + (k : Int) = i + ((k + 1 : Nat) : Int) by omega]
/-! going through i, i+1, .. -/
def fo {α : Type} (f : Int → α → α) : Nat → Int → α → α
  | 0, _, a => a
  | k + 1, i, a => fo f k (i + 1) (f i a)
theorem fo_cong {α : Type} {f g : Int → α → α} : ∀ (k : Nat) (i : Int) (a : α), (∀ j b, i ≤ j → j < i + k → f j b = g j b) → fo f k i a = fo g k i a := by
  intro k
  induction k with
  | zero => intro i a _; rfl
  | succ k ih =>
    intro i a hq
    simp only [fo]
    rw [hq i a (by omega) (by omega), ih (i + 1) _ (fun j b h1 h2 => hq j b (by omega) (by omega))]
theorem fo_inv {α : Type} {f : Int → α → α} {P : Int → α → Prop} : ∀ (k : Nat) (i : Int) (a : α), (∀ j b, i ≤ j → j < i + k → P j b → P (j + 1) (f j b)) → P i a → P (i + k) (fo f k i a) := by
  intro k
  induction k with
  | zero => intro i a _ h; simpa [fo] using h
  | succ k ih =>
    intro i a hq h
    have := ih (i + 1) (f i a) (fun j b h1 h2 => hq j b (by omega) (by omega)) (hq i a (by omega) (by omega) h)
    rw [show i + ((k + 1 : Nat) : Int) = i + 1 + k by omega]
    exact this
theorem fo_last {α : Type} (f : Int → α → α) : ∀ (k : Nat) (i : Int) (a : α), fo f (k + 1) i a = f (i + k) (fo f k i a) := by
  intro k
  induction k with
  | zero => intro i a; simp [fo]
  | succ k ih =>
    intro i a
    rw [fo]
    rw [ih (i + 1) (f i a)]
    simp only [fo]
    rw [show i + 1 + (k : Int) = i + ((k + 1 : Nat) : Int) by omega]
theorem FU_big : (99999 : Int) < (FU : Nat) := by
  show (99999 : Int) < ((100000 : Nat) : Int)
  omega
