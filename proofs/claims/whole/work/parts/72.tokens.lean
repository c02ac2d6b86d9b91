/-! the class's TOKENS: what is gone over -/
/-- how far signs of kind q reach from i on, to n at most -/
def skp (q : Int → Bool) (n : Int) : Nat → Int → Int
  | 0, i => i
  | f + 1, i => if i < n ∧ q i = true then skp q n f (i + 1) else i
theorem skp_rng (q : Int → Bool) (n : Int) : ∀ (f : Nat) (i : Int), i ≤ n → i ≤ skp q n f i ∧ skp q n f i ≤ n
  | 0, i, h => ⟨Int.le_refl _, h⟩
  | f + 1, i, h => by
    unfold skp
    by_cases c : i < n ∧ q i = true
    · rw [if_pos c]
      have := skp_rng q n f (i + 1) (by omega)
      omega
    · rw [if_neg c]
      omega
section
variable {h h' : AH} {a : Nat} {t : Nat → Int} {T : Int → Int}
theorem TP.blanks : ∀ (f : Nat) (h : AH) (t : Nat → Int), TP h a t T → 0 ≤ t 2 → t 2 ≤ t 1 → t 1 ≤ 400 → (∀ i, 0 ≤ i → i < t 1 → 0 ≤ T i ∧ T i ≤ 255) → t 1 - t 2 < f → ∃ h', f6_nextToken_0 a f h = f6_nextToken_37 h' a ∧ TP h' a (us t 2 (skp (fun i => decide (T i = 32)) (t 1) f (t 2))) T ∧ Fr a (a + 2) h h'
  | 0, h, t, P, a0, a1, a2, B, hf => by omega
  | f + 1, h, t, P, a0, a1, a2, B, hf => by
    have l1 : (I (t 1) ≤ I (t 2)) = (t 1 ≤ t 2) := I_le (by omega) (by omega) (by omega) (by omega)
    rw [f6_nextToken_0]
    simp only [I_lit]
    rw [P.f2, Option.bind_some, P.f1, Option.bind_some]
    unfold skp
    by_cases c : t 2 < t 1
    · rw [if_neg (fun z => (by rw [l1] at z; omega)), Option.bind_some, P.byteAt a0 c a2, Option.bind_some]
      have b := B _ a0 c
      have l2 : (I (T (t 2)) = I 32) = (T (t 2) = 32) := I_eq (by omega) (by omega) (by omega) (by omega)
      by_cases d : T (t 2) = 32
      · rw [if_pos (l2 ▸ d), if_pos ⟨c, decide_eq_true d⟩, Option.bind_some, I_add]
        obtain ⟨h1, e1, P1, F1⟩ := P.s2 (t 2 + 1)
        rw [e1, Option.bind_some]
        have e : us t 2 (t 2 + 1) 1 = t 1 := us_ne (by omega)
        have e' : us t 2 (t 2 + 1) 2 = t 2 + 1 := us_eq
        obtain ⟨h2, e2, P2, F2⟩ := TP.blanks f h1 _ P1 (by rw [e']; omega) (by rw [e, e']; omega) (by rw [e]; omega) (by rw [e]; exact B) (by rw [e, e']; omega)
        rw [e, e', us_us] at P2
        exact ⟨h2, e2, P2, F1.trans F2⟩
      · rw [if_neg (fun z => d (l2 ▸ z)), if_neg (fun z => d (of_decide_eq_true z.2)), us_same]
        exact ⟨h, rfl, P, Fr.refl _ _ _⟩
    · rw [if_pos (by rw [l1]; omega), if_neg (fun z => c z.1), us_same]
      exact ⟨h, rfl, P, Fr.refl _ _ _⟩
/-- letters -/
theorem TP.letters : ∀ (f : Nat) (h : AH) (t : Nat → Int), TP h a t T → 0 ≤ t 2 → t 2 ≤ t 1 → t 1 ≤ 400 → (∀ i, 0 ≤ i → i < t 1 → 0 ≤ T i ∧ T i ≤ 255) → t 1 - t 2 < f → ∃ h', f6_goOverWord_0 a f h = f6_goOverWord_42 h' a ∧ TP h' a (us t 2 (skp (fun i => decide (97 ≤ T i ∧ T i ≤ 122)) (t 1) f (t 2))) T ∧ Fr a (a + 2) h h'
  | 0, h, t, P, a0, a1, a2, B, hf => by omega
  | f + 1, h, t, P, a0, a1, a2, B, hf => by
    have l1 : (I (t 1) ≤ I (t 2)) = (t 1 ≤ t 2) := I_le (by omega) (by omega) (by omega) (by omega)
    rw [f6_goOverWord_0]
    simp only [I_lit]
    rw [P.f2, Option.bind_some, P.f1, Option.bind_some]
    unfold skp
    by_cases c : t 2 < t 1
    · have b := B _ a0 c
      rw [if_neg (fun z => (by rw [l1] at z; omega)), Option.bind_some, P.byteAt a0 c a2, Option.bind_some, isFrom_of (x := T (t 2)) (a := 97) (b := 122) (by omega) (by omega) (by omega) (by omega) (by omega) (by omega), Option.bind_some]
      by_cases d : 97 ≤ T (t 2) ∧ T (t 2) ≤ 122
      · rw [if_pos (decide_eq_true d), if_pos ⟨c, decide_eq_true d⟩, Option.bind_some, I_add]
        obtain ⟨h1, e1, P1, F1⟩ := P.s2 (t 2 + 1)
        rw [e1, Option.bind_some]
        have e : us t 2 (t 2 + 1) 1 = t 1 := us_ne (by omega)
        have e' : us t 2 (t 2 + 1) 2 = t 2 + 1 := us_eq
        obtain ⟨h2, e2, P2, F2⟩ := TP.letters f h1 _ P1 (by rw [e']; omega) (by rw [e, e']; omega) (by rw [e]; omega) (by rw [e]; exact B) (by rw [e, e']; omega)
        rw [e, e', us_us] at P2
        exact ⟨h2, e2, P2, F1.trans F2⟩
      · rw [if_neg (fun z => d (of_decide_eq_true z)), if_neg (fun z => d (of_decide_eq_true z.2)), us_same]
        exact ⟨h, rfl, P, Fr.refl _ _ _⟩
    · rw [if_pos (by rw [l1]; omega), if_neg (fun z => c z.1), us_same]
      exact ⟨h, rfl, P, Fr.refl _ _ _⟩
/-- digits: where he is, the value of five at most, how many -/
def dgs (T : Int → Int) (n : Int) : Nat → Int → Int → Int → Int × Int × Int
  | 0, i, v, k => (i, v, k)
  | f + 1, i, v, k => if i < n ∧ (48 ≤ T i ∧ T i ≤ 57) then dgs T n f (i + 1) (if 5 ≤ k then v else v * 10 + T i - 48) (k + 1) else (i, v, k)
def usN (t : Nat → Int) (w : Int × Int × Int) : Nat → Int := us (us (us t 2 w.1) 5 w.2.1) 6 w.2.2
theorem usN_own (t : Nat → Int) : usN t (t 2, t 5, t 6) = t := by
  unfold usN
  funext j
  unfold us
  dsimp only
  split
  · next e => rw [e]
  · split
    · next e => rw [e]
    · split
      · next e => rw [e]
      · rfl
theorem TP.digits : ∀ (f : Nat) (h : AH) (t : Nat → Int), TP h a t T → 0 ≤ t 2 → t 2 ≤ t 1 → t 1 ≤ 400 → (∀ i, 0 ≤ i → i < t 1 → 0 ≤ T i ∧ T i ≤ 255) → 0 ≤ t 6 → t 6 ≤ t 2 → 0 ≤ t 5 → (t 6 = 0 → t 5 = 0) → (t 6 = 1 → t 5 < 10) → (t 6 = 2 → t 5 < 100) → (t 6 = 3 → t 5 < 1000) → (t 6 = 4 → t 5 < 10000) → t 5 < 100000 → t 1 - t 2 < f → ∃ h', f6_goOverNumber_16 a f h = some h' ∧ TP h' a (usN t (dgs T (t 1) f (t 2) (t 5) (t 6))) T ∧ Fr a (a + 2) h h'
  | 0, h, t, P, a0, a1, a2, B, _, _, _, _, _, _, _, _, _, hf => by omega
  | f + 1, h, t, P, a0, a1, a2, B, g0, g1, g2, g3, g4, g5, g6, g7, g8, hf => by
    have l1 : (I (t 1) ≤ I (t 2)) = (t 1 ≤ t 2) := I_le (by omega) (by omega) (by omega) (by omega)
    have l5 : (I 5 ≤ I (t 6)) = (5 ≤ t 6) := I_le (by omega) (by omega) (by omega) (by omega)
    rw [f6_goOverNumber_16]
    simp only [I_lit]
    rw [P.f2, Option.bind_some, P.f1, Option.bind_some]
    unfold dgs
    by_cases c : t 2 < t 1
    · have b := B _ a0 c
      rw [if_neg (fun z => (by rw [l1] at z; omega)), Option.bind_some, P.byteAt a0 c a2, Option.bind_some, isFrom_of (x := T (t 2)) (a := 48) (b := 57) (by omega) (by omega) (by omega) (by omega) (by omega) (by omega), Option.bind_some]
      by_cases d : 48 ≤ T (t 2) ∧ T (t 2) ≤ 57
      · rw [if_pos (decide_eq_true d), if_pos ⟨c, d⟩, P.f6, Option.bind_some]
        by_cases k : 5 ≤ t 6
        · rw [if_pos (by rw [l5]; exact k), if_pos k, Option.bind_some, I_add]
          obtain ⟨h1, e1, P1, F1⟩ := P.s6 (t 6 + 1)
          obtain ⟨h2, e2, P2, F2⟩ := P1.s2 (t 2 + 1)
          have q2 : us t 6 (t 6 + 1) 2 = t 2 := us_ne (by omega)
          rw [e1, Option.bind_some, P1.f2, Option.bind_some, q2, I_add, e2, Option.bind_some]
          have p1 : us (us t 6 (t 6 + 1)) 2 (t 2 + 1) 1 = t 1 := rfl
          have p2 : us (us t 6 (t 6 + 1)) 2 (t 2 + 1) 2 = t 2 + 1 := rfl
          have p5 : us (us t 6 (t 6 + 1)) 2 (t 2 + 1) 5 = t 5 := rfl
          have p6 : us (us t 6 (t 6 + 1)) 2 (t 2 + 1) 6 = t 6 + 1 := rfl
          obtain ⟨h3, e3, P3, F3⟩ := TP.digits f h2 _ P2 (by rw [p2]; omega) (by rw [p1, p2]; omega) (by rw [p1]; omega) (by rw [p1]; exact B) (by rw [p6]; omega) (by rw [p6, p2]; omega) (by rw [p5]; omega) (by rw [p6]; omega) (by rw [p6]; omega) (by rw [p6]; omega) (by rw [p6]; omega) (by rw [p6]; omega) (by rw [p5]; omega) (by rw [p1, p2]; omega)
          rw [p1, p2, p5, p6] at P3
          refine ⟨h3, e3, ?_, (F1.trans F2).trans F3⟩
          have z : ∀ w, usN (us (us t 6 (t 6 + 1)) 2 (t 2 + 1)) w = usN t w := fun w => by
            funext j; by_cases x6 : j = 6 <;> by_cases x5 : j = 5 <;> by_cases x2 : j = 2 <;> simp [usN, us, x6, x5, x2]
          rw [z] at P3
          exact P3
        · rw [if_neg (fun z => k (by rw [l5] at z; exact z)), if_neg k, P.f5, Option.bind_some, Option.bind_some, P.byteAt a0 c a2, Option.bind_some, I_mul, I_add, I_sub]
          obtain ⟨h1, e1, P1, F1⟩ := P.s5 (t 5 * 10 + T (t 2) - 48)
          obtain ⟨h2, e2, P2, F2⟩ := P1.s6 (t 6 + 1)
          obtain ⟨h3, e3, P3, F3⟩ := P2.s2 (t 2 + 1)
          have q6 : us t 5 (t 5 * 10 + T (t 2) - 48) 6 = t 6 := rfl
          have q2 : us (us t 5 (t 5 * 10 + T (t 2) - 48)) 6 (t 6 + 1) 2 = t 2 := rfl
          rw [e1, Option.bind_some, P1.f6, Option.bind_some, q6, I_add, e2, Option.bind_some, P2.f2, Option.bind_some, q2, I_add, e3, Option.bind_some]
          have p1 : us (us (us t 5 (t 5 * 10 + T (t 2) - 48)) 6 (t 6 + 1)) 2 (t 2 + 1) 1 = t 1 := rfl
          have p2 : us (us (us t 5 (t 5 * 10 + T (t 2) - 48)) 6 (t 6 + 1)) 2 (t 2 + 1) 2 = t 2 + 1 := rfl
          have p5 : us (us (us t 5 (t 5 * 10 + T (t 2) - 48)) 6 (t 6 + 1)) 2 (t 2 + 1) 5 = t 5 * 10 + T (t 2) - 48 := rfl
          have p6 : us (us (us t 5 (t 5 * 10 + T (t 2) - 48)) 6 (t 6 + 1)) 2 (t 2 + 1) 6 = t 6 + 1 := rfl
          obtain ⟨h4, e4, P4, F4⟩ := TP.digits f h3 _ P3 (by rw [p2]; omega) (by rw [p1, p2]; omega) (by rw [p1]; omega) (by rw [p1]; exact B) (by rw [p6]; omega) (by rw [p6, p2]; omega) (by rw [p5]; omega) (by rw [p6]; omega) (by rw [p6, p5]; omega) (by rw [p6, p5]; omega) (by rw [p6, p5]; omega) (by rw [p6, p5]; omega) (by rw [p5]; omega) (by rw [p1, p2]; omega)
          rw [p1, p2, p5, p6] at P4
          refine ⟨h4, e4, ?_, ((F1.trans F2).trans F3).trans F4⟩
          have z : ∀ w, usN (us (us (us t 5 (t 5 * 10 + T (t 2) - 48)) 6 (t 6 + 1)) 2 (t 2 + 1)) w = usN t w := fun w => by
            funext j; by_cases x6 : j = 6 <;> by_cases x5 : j = 5 <;> by_cases x2 : j = 2 <;> simp [usN, us, x6, x5, x2]
          rw [z] at P4
          exact P4
      · rw [if_neg (fun z => d (of_decide_eq_true z)), if_neg (fun z => d z.2), usN_own]
        exact ⟨h, rfl, P, Fr.refl _ _ _⟩
    · rw [if_pos (by rw [l1]; omega), if_neg (fun z => c z.1), usN_own]
      exact ⟨h, rfl, P, Fr.refl _ _ _⟩
end
