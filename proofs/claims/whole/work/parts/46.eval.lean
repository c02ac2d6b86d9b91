/-! WHAT A TEXT SAYS: codes one after the other over a list of numbers -/
def jo (c : Int) (x y : Int64) : Int64 := if c = 19 then x &&& y else if c = 22 then (if x < y then 1 else 0) else if c = 23 then (if x ≤ y then 1 else 0) else if c = 24 then (if x = y then 1 else 0) else if c = 25 then (if y ≤ x then 1 else 0) else if c = 26 then (if y < x then 1 else 0) else if c = 27 then x + y else if c = 28 then x - y else if c = 29 then x * y else x ||| y
def sp (wv : Int → Int64) (c : Int) (L : List Int64) : List Int64 :=
  if c < 0 then J (-1 - c) :: L else if c < 10 then wv c :: L else if c = 20 then (match L with | a :: L => (if a = 0 then 1 else 0) :: L | [] => []) else (match L with | y :: x :: L => jo c x y :: L | _ => [])
def tk (c : Int) (B : List Bool) : Option (List Bool) :=
  if c < 10 then some (false :: B) else if c = 20 then (match B with | true :: B => some (true :: B) | _ => none) else if c = 18 ∨ c = 19 then (match B with | true :: true :: B => some (true :: B) | _ => none) else if 22 ≤ c ∧ c ≤ 26 then (match B with | false :: false :: B => some (true :: B) | _ => none) else if 27 ≤ c ∧ c ≤ 29 then (match B with | false :: false :: B => some (false :: B) | _ => none) else none
def rn (wv : Int → Int64) (cd : Int → Int) : Nat → Int → List Int64 → List Int64
  | 0, _, L => L
  | k + 1, i, L => rn wv cd k (i + 1) (sp wv (cd i) L)
def rt (cd : Int → Int) : Nat → Int → List Bool → Option (List Bool)
  | 0, _, B => some B
  | k + 1, i, B => (tk (cd i) B).bind fun B' => rt cd k (i + 1) B'
def ty : List Bool → List Int64 → Prop
  | [], [] => True
  | b :: B, a :: L => (b = true → a = 0 ∨ a = 1) ∧ ty B L
  | _, _ => False
theorem rn_cong {wv : Int → Int64} {cd cd' : Int → Int} {s : Int} : ∀ (k : Nat) (i : Int) (L : List Int64), (∀ j, i ≤ j → j < i + k → cd (j + s) = cd' j) → rn wv cd k (i + s) L = rn wv cd' k i L := by
  intro k
  induction k with
  | zero => intro i L _; rfl
  | succ k ih =>
    intro i L h
    simp only [rn]
    rw [h i (by omega) (by omega), show i + s + 1 = i + 1 + s by omega, ih (i + 1) _ (fun j a b => h j (by omega) (by omega))]
theorem rt_cong {cd cd' : Int → Int} {s : Int} : ∀ (k : Nat) (i : Int) (B : List Bool), (∀ j, i ≤ j → j < i + k → cd (j + s) = cd' j) → rt cd k (i + s) B = rt cd' k i B := by
  intro k
  induction k with
  | zero => intro i L _; rfl
  | succ k ih =>
    intro i B h
    simp only [rt]
    rw [h i (by omega) (by omega), show i + s + 1 = i + 1 + s by omega]
    congr 1
    funext B'
    exact ih (i + 1) _ (fun j a b => h j (by omega) (by omega))
theorem rt_add (cd : Int → Int) : ∀ (a b : Nat) (i : Int) (B : List Bool), rt cd (a + b) i B = (rt cd a i B).bind fun B' => rt cd b (i + a) B' := by
  intro a
  induction a with
  | zero => intro b i B; simp [rt]
  | succ a ih =>
    intro b i B
    rw [show a + 1 + b = (a + b) + 1 by omega]
    simp only [rt, Option.bind_assoc]
    congr 1
    funext B'
    rw [ih, show i + ((a + 1 : Nat) : Int) = i + 1 + a by omega]
theorem rt_last {cd : Int → Int} {k : Nat} {i : Int} {B B' B2 : List Bool} (h : rt cd k i B = some B') (h2 : tk (cd (i + k)) B' = some B2) : rt cd (k + 1) i B = some B2 := by
  rw [rt_add, h]
  simp only [Option.bind_some, rt, h2]
theorem tk_frame {c : Int} {B B' X : List Bool} (h : tk c B = some B') : tk c (B ++ X) = some (B' ++ X) := by
  unfold tk at h ⊢
  split at h
  · next q => rw [if_pos q]; cases h; rfl
  · next q =>
    rw [if_neg q]
    split at h
    · next q => rw [if_pos q]; split at h <;> first | cases h; done | (cases h; rfl)
    · next q =>
      rw [if_neg q]
      split at h
      · next q => rw [if_pos q]; split at h <;> first | cases h; done | (cases h; rfl)
      · next q =>
        rw [if_neg q]
        split at h
        · next q => rw [if_pos q]; split at h <;> first | cases h; done | (cases h; rfl)
        · next q =>
          rw [if_neg q]
          split at h
          · next q => rw [if_pos q]; split at h <;> first | cases h; done | (cases h; rfl)
          · cases h
theorem rt_frame {cd : Int → Int} {X : List Bool} : ∀ (k : Nat) (i : Int) (B B' : List Bool), rt cd k i B = some B' → rt cd k i (B ++ X) = some (B' ++ X) := by
  intro k
  induction k with
  | zero => intro i B B' h; simp only [rt] at h ⊢; cases h; rfl
  | succ k ih =>
    intro i B B' h
    simp only [rt] at h ⊢
    cases e : tk (cd i) B with
    | none => rw [e] at h; cases h
    | some B1 =>
      rw [e] at h
      rw [tk_frame e]
      exact ih _ _ _ h
/-- what a code does, by its kind -/
theorem tk_cases {c : Int} {B B' : List Bool} (h : tk c B = some B') : (c < 10 ∧ B' = false :: B) ∨ (c = 20 ∧ ∃ X, B = true :: X ∧ B' = true :: X) ∨ ((c = 18 ∨ c = 19) ∧ ∃ X, B = true :: true :: X ∧ B' = true :: X) ∨ ((22 ≤ c ∧ c ≤ 26) ∧ ∃ X, B = false :: false :: X ∧ B' = true :: X) ∨ ((27 ≤ c ∧ c ≤ 29) ∧ ∃ X, B = false :: false :: X ∧ B' = false :: X) := by
  unfold tk at h
  split at h
  · next q => cases h; exact .inl ⟨q, rfl⟩
  · split at h
    · next q =>
      split at h
      · next X => cases h; exact .inr (.inl ⟨q, X, rfl, rfl⟩)
      · cases h
    · split at h
      · next q =>
        split at h
        · next X => cases h; exact .inr (.inr (.inl ⟨q, X, rfl, rfl⟩))
        · cases h
      · split at h
        · next q =>
          split at h
          · next X => cases h; exact .inr (.inr (.inr (.inl ⟨q, X, rfl, rfl⟩)))
          · cases h
        · split at h
          · next q =>
            split at h
            · next X => cases h; exact .inr (.inr (.inr (.inr ⟨q, X, rfl, rfl⟩)))
            · cases h
          · cases h
theorem ty_nil {L : List Int64} (h : ty [] L) : L = [] := by
  cases L with
  | nil => rfl
  | cons a L => exact h.elim
theorem ty_cons {b : Bool} {B : List Bool} {L : List Int64} (h : ty (b :: B) L) : ∃ a M, L = a :: M ∧ (b = true → a = 0 ∨ a = 1) ∧ ty B M := by
  cases L with
  | nil => exact h.elim
  | cons a L => exact ⟨a, L, rfl, h.1, h.2⟩
theorem ty_len : ∀ {B : List Bool} {L : List Int64}, ty B L → L.length = B.length := by
  intro B
  induction B with
  | nil => intro L h; rw [ty_nil h]; rfl
  | cons b B ih =>
    intro L h
    obtain ⟨a, M, e, -, h2⟩ := ty_cons h
    rw [e]
    simp only [List.length_cons, ih h2]
theorem jo_b {c : Int} {x y : Int64} (hc : c = 18 ∨ c = 19) (hx : x = 0 ∨ x = 1) (hy : y = 0 ∨ y = 1) : jo c x y = 0 ∨ jo c x y = 1 := by
  rcases hc with e | e <;> subst e <;> rcases hx with e | e <;> subst e <;> rcases hy with e | e <;> subst e <;> simp [jo]
theorem if01 (P : Prop) [Decidable P] : (if P then (1 : Int64) else 0) = 0 ∨ (if P then (1 : Int64) else 0) = 1 := by
  by_cases h : P
  · exact .inr (if_pos h)
  · exact .inl (if_neg h)
theorem jo_s {c : Int} {x y : Int64} (hc : 22 ≤ c ∧ c ≤ 26) : jo c x y = 0 ∨ jo c x y = 1 := by
  have : c = 22 ∨ c = 23 ∨ c = 24 ∨ c = 25 ∨ c = 26 := by omega
  unfold jo
  rcases this with e | e | e | e | e <;> subst e
  · rw [if_neg (by omega), if_pos rfl]; exact if01 _
  · rw [if_neg (by omega), if_neg (by omega), if_pos rfl]; exact if01 _
  · rw [if_neg (by omega), if_neg (by omega), if_neg (by omega), if_pos rfl]; exact if01 _
  · rw [if_neg (by omega), if_neg (by omega), if_neg (by omega), if_neg (by omega), if_pos rfl]; exact if01 _
  · rw [if_neg (by omega), if_neg (by omega), if_neg (by omega), if_neg (by omega), if_neg (by omega), if_pos rfl]; exact if01 _
theorem sp_ty {wv : Int → Int64} {c : Int} {B B' : List Bool} {L : List Int64} (h : tk c B = some B') (t : ty B L) : ty B' (sp wv c L) := by
  rcases tk_cases h with ⟨q, e⟩ | ⟨q, X, e1, e2⟩ | ⟨q, X, e1, e2⟩ | ⟨q, X, e1, e2⟩ | ⟨q, X, e1, e2⟩
  · subst e
    unfold sp
    by_cases c0 : c < 0
    · rw [if_pos c0]; exact ⟨fun z => (by cases z), t⟩
    · rw [if_neg c0, if_pos q]; exact ⟨fun z => (by cases z), t⟩
  · subst e1 e2
    obtain ⟨a, M, e, ha, t2⟩ := ty_cons t
    subst e
    unfold sp
    rw [if_neg (by omega), if_neg (by omega), if_pos q]
    refine ⟨fun _ => ?_, t2⟩
    split
    · exact .inr rfl
    · exact .inl rfl
  · subst e1 e2
    obtain ⟨y, M, e, hy, t2⟩ := ty_cons t
    obtain ⟨x, N, e2, hx, t3⟩ := ty_cons t2
    subst e e2
    unfold sp
    rw [if_neg (by omega), if_neg (by omega), if_neg (by omega)]
    exact ⟨fun _ => jo_b q (hx rfl) (hy rfl), t3⟩
  · subst e1 e2
    obtain ⟨y, M, e, hy, t2⟩ := ty_cons t
    obtain ⟨x, N, e2, hx, t3⟩ := ty_cons t2
    subst e e2
    unfold sp
    rw [if_neg (by omega), if_neg (by omega), if_neg (by omega)]
    exact ⟨fun _ => jo_s q, t3⟩
  · subst e1 e2
    obtain ⟨y, M, e, hy, t2⟩ := ty_cons t
    obtain ⟨x, N, e2, hx, t3⟩ := ty_cons t2
    subst e e2
    unfold sp
    rw [if_neg (by omega), if_neg (by omega), if_neg (by omega)]
    exact ⟨fun z => (by cases z), t3⟩
theorem sp_frame {wv : Int → Int64} {c : Int} {B B' : List Bool} {L X : List Int64} (h : tk c B = some B') (t : ty B L) : sp wv c (L ++ X) = sp wv c L ++ X := by
  rcases tk_cases h with ⟨q, e⟩ | ⟨q, Y, e1, e2⟩ | ⟨q, Y, e1, e2⟩ | ⟨q, Y, e1, e2⟩ | ⟨q, Y, e1, e2⟩
  · unfold sp
    by_cases c0 : c < 0
    · rw [if_pos c0, if_pos c0]; rfl
    · rw [if_neg c0, if_pos q, if_neg c0, if_pos q]; rfl
  · subst e1
    obtain ⟨a, M, e, ha, t2⟩ := ty_cons t
    subst e
    unfold sp
    rw [if_neg (by omega), if_neg (by omega), if_pos q, if_neg (by omega), if_neg (by omega), if_pos q]
    rfl
  all_goals
    subst e1
    obtain ⟨y, M, e, hy, t2⟩ := ty_cons t
    obtain ⟨x, N, e2, hx, t3⟩ := ty_cons t2
    subst e e2
    unfold sp
    rw [if_neg (by omega), if_neg (by omega), if_neg (by omega), if_neg (by omega), if_neg (by omega), if_neg (by omega)]
    rfl
theorem rn_ty {wv : Int → Int64} {cd : Int → Int} : ∀ (k : Nat) (i : Int) (B B' : List Bool) (L : List Int64), rt cd k i B = some B' → ty B L → ty B' (rn wv cd k i L) := by
  intro k
  induction k with
  | zero => intro i B B' L h t; simp only [rt] at h; cases h; exact t
  | succ k ih =>
    intro i B B' L h t
    simp only [rt, rn] at h ⊢
    cases e : tk (cd i) B with
    | none => rw [e] at h; cases h
    | some B1 =>
      rw [e] at h
      exact ih _ _ _ _ h (sp_ty e t)
theorem rn_frame {wv : Int → Int64} {cd : Int → Int} {X : List Int64} : ∀ (k : Nat) (i : Int) (B B' : List Bool) (L : List Int64), rt cd k i B = some B' → ty B L → rn wv cd k i (L ++ X) = rn wv cd k i L ++ X := by
  intro k
  induction k with
  | zero => intro i B B' L h t; rfl
  | succ k ih =>
    intro i B B' L h t
    simp only [rt, rn] at h ⊢
    cases e : tk (cd i) B with
    | none => rw [e] at h; cases h
    | some B1 =>
      rw [e] at h
      rw [sp_frame e t]
      exact ih _ _ _ _ h (sp_ty e t)
/-- a list as it lies in a row of longs, its top last -/
def ho (sk : Int → Int64) : List Int64 → Prop
  | [] => True
  | a :: L => sk L.length = a ∧ ho sk L
theorem ho_up {sk : Int → Int64} {n : Int} {x : Int64} : ∀ {L : List Int64}, (L.length : Int) ≤ n → ho sk L → ho (ul sk n x) L := by
  intro L
  induction L with
  | nil => intro _ _; trivial
  | cons a L ih =>
    intro h t
    simp only [List.length_cons] at h
    exact ⟨by rw [ul_ne (by omega)]; exact t.1, ih (by omega) t.2⟩
theorem ho_push {sk : Int → Int64} {x : Int64} {L : List Int64} (t : ho sk L) : ho (ul sk L.length x) (x :: L) := ⟨ul_eq, ho_up (Int.le_refl _) t⟩
/-- how much higher the list grows at most -/
theorem sp_len {wv : Int → Int64} {c : Int} {B B' : List Bool} {L : List Int64} (h : tk c B = some B') (t : ty B L) : ((sp wv c L).length : Int) ≤ L.length + (if decide (c < 10) = true then 1 else 0) := by
  have a := ty_len (sp_ty (wv := wv) h t)
  have b := ty_len t
  rw [a, b]
  rcases tk_cases h with ⟨q, e⟩ | ⟨q, Y, e1, e2⟩ | ⟨q, Y, e1, e2⟩ | ⟨q, Y, e1, e2⟩ | ⟨q, Y, e1, e2⟩
  · rw [e, if_pos (by simpa using q)]; simp
  all_goals
    rw [e1, e2]
    split <;> simp <;> omega
