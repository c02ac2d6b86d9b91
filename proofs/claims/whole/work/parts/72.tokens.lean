/-! the class's TOKENS: what is gone over -/
/-- how far signs of kind q reach from i on, to n at most -/
def skp (q : Int → Bool) (n : Int) : Nat → Int → Int
  | 0, i => i
  | f + 1, i => if i < n ∧ q i = true then skp q n f (i + 1) else i
theorem skp_rng (q : Int → Bool) (n : Int) : ∀ (f : Nat) (i : Int), i ≤ n → i ≤ skp q n f i ∧ skp q n f i ≤ n
  | 0, i, h => ⟨Int.le_refl _, h⟩
  | f + 1, i, h => by
    unfold skp
    by_cases c : i < n ∧ q i = true
    · rw [if_pos c]
      have := skp_rng q n f (i + 1) (by omega)
      omega
    · rw [if_neg c]
      omega
theorem us_own (t : Nat → Int) (k : Nat) : us t k (t k) = t := by
  funext j
  unfold us
  split
  · next e => rw [e]
  · rfl
section
variable {h h' : AH} {a : Nat} {t : Nat → Int} {T : Int → Int}
theorem TP.blanks : ∀ (f : Nat) (h : AH) (t : Nat → Int), TP h a t T → 0 ≤ t 2 → t 2 ≤ t 1 → t 1 ≤ 400 → (∀ i, 0 ≤ i → i < t 1 → 0 ≤ T i ∧ T i ≤ 255) → t 1 - t 2 < f → ∃ h', f6_nextToken_0 a f h = f6_nextToken_37 h' a ∧ TP h' a (us t 2 (skp (fun i => decide (T i = 32)) (t 1) f (t 2))) T ∧ Fr a (a + 2) h h'
  | 0, h, t, P, a0, a1, a2, B, hf => by omega
  | f + 1, h, t, P, a0, a1, a2, B, hf => by
    have l1 : (I (t 1) ≤ I (t 2)) = (t 1 ≤ t 2) := I_le (by omega) (by omega) (by omega) (by omega)
    rw [f6_nextToken_0]
    simp only [I_lit]
    rw [P.f2, Option.bind_some, P.f1, Option.bind_some]
    unfold skp
    by_cases c : t 2 < t 1
    · rw [if_neg (fun z => (by rw [l1] at z; omega)), Option.bind_some, P.byteAt a0 c a2, Option.bind_some]
      have b := B _ a0 c
      have l2 : (I (T (t 2)) = I 32) = (T (t 2) = 32) := I_eq (by omega) (by omega) (by omega) (by omega)
      by_cases d : T (t 2) = 32
      · rw [if_pos (l2 ▸ d), if_pos ⟨c, decide_eq_true d⟩, Option.bind_some, I_add]
        obtain ⟨h1, e1, P1, F1⟩ := P.s2 (t 2 + 1)
        rw [e1, Option.bind_some]
        have e : us t 2 (t 2 + 1) 1 = t 1 := us_ne (by omega)
        have e' : us t 2 (t 2 + 1) 2 = t 2 + 1 := us_eq
        obtain ⟨h2, e2, P2, F2⟩ := TP.blanks f h1 _ P1 (by rw [e']; omega) (by rw [e, e']; omega) (by rw [e]; omega) (by rw [e]; exact B) (by rw [e, e']; omega)
        rw [e, e', us_us] at P2
        exact ⟨h2, e2, P2, F1.trans F2⟩
      · rw [if_neg (fun z => d (l2 ▸ z)), if_neg (fun z => d (of_decide_eq_true z.2)), us_own]
        exact ⟨h, rfl, P, Fr.refl _ _ _⟩
    · rw [if_pos (by rw [l1]; omega), if_neg (fun z => c z.1), us_own]
      exact ⟨h, rfl, P, Fr.refl _ _ _⟩
end
