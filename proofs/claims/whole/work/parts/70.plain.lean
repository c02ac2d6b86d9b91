/-! the class's plain questions -/
section
variable {h h' : AH} {x : Nat} {r : Int → Int} {c : Nat → Int → Int} {nr nm : Int} {t : Nat → Int} {T : Int → Int}
theorem XO.of_ (O : XO h x nr nm) (W : WD h (x + 1) r c) {p w : Int} (p0 : -2147483648 ≤ p) (p1 : p < 2147483648) (w0 : -2147483648 ≤ w) (w1 : w < 2147483648) : f8_of h x (I p) (I w) = some (I (if (0 ≤ p ∧ p < r 4) ∧ 0 ≤ w ∧ w ≤ 7 then (if w < 4 then pq r p (pw r w) else if w = 4 then ag r p else if w = 5 then r (1330 + 10 * p + 8) else if w = 6 then r (1330 + 10 * p + 6) else yo r p) else -1)) := by
  have bb := W.ri.1
  have e : ∀ k : Int, -2147483648 ≤ k → k < 2147483648 → (I w = I k) = (w = k) := fun k k0 k1 => I_eq w0 w1 k0 k1
  rw [f8_of]
  simp only [I_lit, I_neg]
  rw [O.o, Option.bind_some, O.f0, Option.bind_some, W.f4, Option.bind_some, W.pi.has p0 p1, Option.bind_some]
  by_cases a : 0 ≤ p ∧ p < r 4
  · rw [if_pos (decide_eq_true a)]
    by_cases b : 0 ≤ w ∧ w ≤ 7
    · rw [if_pos (show (0 ≤ p ∧ p < r 4) ∧ 0 ≤ w ∧ w ≤ 7 from ⟨a, b⟩)]
      have cs : w = 0 ∨ w = 1 ∨ w = 2 ∨ w = 3 ∨ w = 4 ∨ w = 5 ∨ w = 6 ∨ w = 7 := by omega
      rcases cs with q | q | q | q | q | q | q | q <;> subst q
      · simp (disch := omega) only [I_eq, if_true, if_pos, if_neg, Option.bind_some, W.pagesOf, pw0]
      · simp (disch := omega) only [I_eq, if_true, if_pos, if_neg, Option.bind_some, W.wrongPages, pw1]
      · simp (disch := omega) only [I_eq, if_true, if_pos, if_neg, Option.bind_some, W.sharedPages, pw2]
      · simp (disch := omega) only [I_eq, if_true, if_pos, if_neg, Option.bind_some, W.nowherePages, pw3]
      · simp (disch := omega) only [I_eq, if_true, if_pos, if_neg, Option.bind_some, W.age]
      · simp (disch := omega) only [I_eq, if_true, if_pos, if_neg, Option.bind_some, W.f4, W.pAt]
      · simp (disch := omega) only [I_eq, if_true, if_pos, if_neg, Option.bind_some, W.f4, W.pAt]
      · simp (disch := omega) only [I_eq, if_true, if_pos, if_neg, Option.bind_some, W.young]
    · rw [if_neg (show ¬ ((0 ≤ p ∧ p < r 4) ∧ 0 ≤ w ∧ w ≤ 7) from fun z => b z.2)]
      simp (disch := omega) only [I_eq, if_neg]
  · rw [decide_eq_false a, if_neg Bool.false_ne_true, if_neg (show ¬ ((0 ≤ p ∧ p < r 4) ∧ 0 ≤ w ∧ w ≤ 7) from fun z => a z.1)]
theorem XO.shared (O : XO h x nr nm) (W : WD h (x + 1) r c) {p s : Int} (p0 : -2147483648 ≤ p) (p1 : p < 2147483648) (s0 : -2147483648 ≤ s) (s1 : s < 2147483648) : f8_shared h x (I p) (I s) = some (I (if (0 ≤ p ∧ p < r 4) ∧ 0 ≤ s ∧ s ≤ 5 then sw r p s else -1)) := by
  have bb := W.ri.1
  rw [f8_shared]
  simp only [I_lit, I_neg]
  rw [O.o, Option.bind_some, O.f0, Option.bind_some, W.f4, Option.bind_some, W.pi.has p0 p1, Option.bind_some]
  by_cases a : 0 ≤ p ∧ p < r 4
  · rw [if_pos (decide_eq_true a), isFrom_of (x := s) (a := 0) (b := 5) s0 s1 (by omega) (by omega) (by omega) (by omega), Option.bind_some]
    by_cases b : 0 ≤ s ∧ s ≤ 5
    · rw [if_pos (decide_eq_true b), if_pos (show (0 ≤ p ∧ p < r 4) ∧ 0 ≤ s ∧ s ≤ 5 from ⟨a, b⟩), Option.bind_some, W.sharedWith (by omega) (by omega) b.1 b.2, Option.bind_some]
      rfl
    · rw [decide_eq_false b, if_neg Bool.false_ne_true, if_neg (show ¬ ((0 ≤ p ∧ p < r 4) ∧ 0 ≤ s ∧ s ≤ 5) from fun z => b z.2)]
  · rw [decide_eq_false a, if_neg Bool.false_ne_true, if_neg (show ¬ ((0 ≤ p ∧ p < r 4) ∧ 0 ≤ s ∧ s ≤ 5) from fun z => a z.1)]
theorem XO.stand (O : XO h x nr nm) (W : WD h (x + 1) r c) {p wk : Int} (p0 : -2147483648 ≤ p) (p1 : p < 2147483648) (s0 : -2147483648 ≤ wk) (s1 : wk < 2147483648) : f8_stand h x (I p) (I wk) = some (I (if (0 ≤ p ∧ p < r 4) ∧ 0 ≤ wk ∧ wk ≤ 519 then sd r p wk else -1)) := by
  have bb := W.ri.1
  rw [f8_stand]
  simp only [I_lit, I_neg]
  rw [O.o, Option.bind_some, O.f0, Option.bind_some, W.f4, Option.bind_some, W.pi.has p0 p1, Option.bind_some]
  by_cases a : 0 ≤ p ∧ p < r 4
  · rw [if_pos (decide_eq_true a), isFrom_of (x := wk) (a := 0) (b := 519) s0 s1 (by omega) (by omega) (by omega) (by omega), Option.bind_some]
    by_cases b : 0 ≤ wk ∧ wk ≤ 519
    · rw [if_pos (decide_eq_true b), if_pos (show (0 ≤ p ∧ p < r 4) ∧ 0 ≤ wk ∧ wk ≤ 519 from ⟨a, b⟩), Option.bind_some, W.stand a.1 a.2 b.1 b.2, Option.bind_some]
    · rw [decide_eq_false b, if_neg Bool.false_ne_true, if_neg (show ¬ ((0 ≤ p ∧ p < r 4) ∧ 0 ≤ wk ∧ wk ≤ 519) from fun z => b z.2)]
  · rw [decide_eq_false a, if_neg Bool.false_ne_true, if_neg (show ¬ ((0 ≤ p ∧ p < r 4) ∧ 0 ≤ wk ∧ wk ≤ 519) from fun z => a z.1)]
theorem XO.unasked (O : XO h x nr nm) (W : WD h (x + 1) r c) {p wk : Int} (p0 : -2147483648 ≤ p) (p1 : p < 2147483648) (s0 : -2147483648 ≤ wk) (s1 : wk < 2147483648) : f8_unasked h x (I p) (I wk) = some (I (if (0 ≤ p ∧ p < r 4) ∧ 0 ≤ wk ∧ wk ≤ 519 then bs (uq r p wk) (r 8).toNat else -1)) := by
  have bb := W.ri.1
  rw [f8_unasked]
  simp only [I_lit, I_neg]
  rw [O.o, Option.bind_some, O.f0, Option.bind_some, W.f4, Option.bind_some, W.pi.has p0 p1, Option.bind_some]
  by_cases a : 0 ≤ p ∧ p < r 4
  · rw [if_pos (decide_eq_true a), isFrom_of (x := wk) (a := 0) (b := 519) s0 s1 (by omega) (by omega) (by omega) (by omega), Option.bind_some]
    by_cases b : 0 ≤ wk ∧ wk ≤ 519
    · rw [if_pos (decide_eq_true b), if_pos (show (0 ≤ p ∧ p < r 4) ∧ 0 ≤ wk ∧ wk ≤ 519 from ⟨a, b⟩), Option.bind_some, W.unasked a.1 (by omega) b.1 b.2, Option.bind_some]
    · rw [decide_eq_false b, if_neg Bool.false_ne_true, if_neg (show ¬ ((0 ≤ p ∧ p < r 4) ∧ 0 ≤ wk ∧ wk ≤ 519) from fun z => b z.2)]
  · rw [decide_eq_false a, if_neg Bool.false_ne_true, if_neg (show ¬ ((0 ≤ p ∧ p < r 4) ∧ 0 ≤ wk ∧ wk ≤ 519) from fun z => a z.1)]
theorem XO.gain (O : XO h x nr nm) (W : WD h (x + 1) r c) {p wk : Int} (p0 : -2147483648 ≤ p) (p1 : p < 2147483648) (s0 : -2147483648 ≤ wk) (s1 : wk < 2147483648) : f8_gain h x (I p) (I wk) = some (I (if (0 ≤ p ∧ p < r 8) ∧ 0 ≤ wk ∧ wk ≤ 519 then ga r p wk else -1)) := by
  have bb := W.ri.1
  rw [f8_gain]
  simp only [I_lit, I_neg]
  rw [O.o, Option.bind_some, O.f0, Option.bind_some, W.f8, Option.bind_some, W.pe.has p0 p1, Option.bind_some]
  by_cases a : 0 ≤ p ∧ p < r 8
  · rw [if_pos (decide_eq_true a), isFrom_of (x := wk) (a := 0) (b := 519) s0 s1 (by omega) (by omega) (by omega) (by omega), Option.bind_some]
    by_cases b : 0 ≤ wk ∧ wk ≤ 519
    · rw [if_pos (decide_eq_true b), if_pos (show (0 ≤ p ∧ p < r 8) ∧ 0 ≤ wk ∧ wk ≤ 519 from ⟨a, b⟩), Option.bind_some, W.gain a.1 a.2 b.1 b.2, Option.bind_some]
    · rw [decide_eq_false b, if_neg Bool.false_ne_true, if_neg (show ¬ ((0 ≤ p ∧ p < r 8) ∧ 0 ≤ wk ∧ wk ≤ 519) from fun z => b z.2)]
  · rw [decide_eq_false a, if_neg Bool.false_ne_true, if_neg (show ¬ ((0 ≤ p ∧ p < r 8) ∧ 0 ≤ wk ∧ wk ≤ 519) from fun z => a z.1)]
theorem XO.cost (O : XO h x nr nm) (W : WD h (x + 1) r c) {p : Int} (p0 : -2147483648 ≤ p) (p1 : p < 2147483648) : f8_cost h x (I p) = some (I (if 0 ≤ p ∧ p < r 4 then co r p else -1)) := by
  rw [f8_cost]
  simp only [I_lit, I_neg]
  rw [O.o, Option.bind_some, O.f0, Option.bind_some, W.f4, Option.bind_some, W.pi.has p0 p1, Option.bind_some]
  by_cases a : 0 ≤ p ∧ p < r 4
  · rw [if_pos (decide_eq_true a), if_pos a, Option.bind_some, W.cost a.1 a.2, Option.bind_some]
  · rw [decide_eq_false a, if_neg Bool.false_ne_true, if_neg a]
theorem XO.cheapest (O : XO h x nr nm) (W : WD h (x + 1) r c) {p : Int} (p0 : -2147483648 ≤ p) (p1 : p < 2147483648) : f8_cheapest h x (I p) = some (I (if 0 ≤ p ∧ p < r 4 then ch r p else -1)) := by
  rw [f8_cheapest]
  simp only [I_lit, I_neg]
  rw [O.o, Option.bind_some, O.f0, Option.bind_some, W.f4, Option.bind_some, W.pi.has p0 p1, Option.bind_some]
  by_cases a : 0 ≤ p ∧ p < r 4
  · rw [if_pos (decide_eq_true a), if_pos a, Option.bind_some, W.cheapest a.1 a.2, Option.bind_some]
  · rw [decide_eq_false a, if_neg Bool.false_ne_true, if_neg a]
theorem XO.likely (O : XO h x nr nm) (W : WD h (x + 1) r c) {p : Int} (p0 : -2147483648 ≤ p) (p1 : p < 2147483648) : f8_likely h x (I p) = some (I (if 0 ≤ p ∧ p < r 4 then (li r p).1 else -1)) := by
  have bb := W.ri.1
  rw [f8_likely]
  simp only [I_lit, I_neg]
  rw [O.o, Option.bind_some, O.f0, Option.bind_some, W.f4, Option.bind_some, W.pi.has p0 p1, Option.bind_some]
  by_cases a : 0 ≤ p ∧ p < r 4
  · rw [if_pos (decide_eq_true a), if_pos a, Option.bind_some, W.likely a.1 (by omega), Option.bind_some]
  · rw [decide_eq_false a, if_neg Bool.false_ne_true, if_neg a]
theorem XO.kin (O : XO h x nr nm) (W : WD h (x + 1) r c) {p q : Int} (p0 : -2147483648 ≤ p) (p1 : p < 2147483648) (q0 : -2147483648 ≤ q) (q1 : q < 2147483648) : f8_kin h x (I p) (I q) = some (I (if 0 ≤ p ∧ p < r 4 ∧ 0 ≤ q ∧ q < r 4 ∧ p ≠ q then ki r p q else -1)) := by
  have bb := W.ri.1
  rw [f8_kin]
  simp only [I_lit, I_neg]
  rw [O.o, Option.bind_some, O.f0, Option.bind_some, W.unlike p0 p1 q0 q1, Option.bind_some]
  by_cases a : 0 ≤ p ∧ p < r 4 ∧ 0 ≤ q ∧ q < r 4 ∧ p ≠ q
  · have b1 := bs_rng (fun s => decide (0 < sw r p s)) 6
    have b2 := bs_rng (fun s => decide (0 < sw r q s)) 6
    have b3 := bs_rng (fun s => decide (0 < sw r p s) && decide (0 < sw r q s)) 6
    rw [if_pos (decide_eq_true a), if_pos a, Option.bind_some, W.srcOf a.1 (by omega), Option.bind_some, Option.bind_some, W.srcOf a.2.2.1 (by omega), Option.bind_some, I_and (by omega) (by omega) (by omega) (by omega), andi_six, bitCount_of (by omega) (by omega), Option.bind_some, bc_six]
    rfl
  · rw [decide_eq_false a, if_neg Bool.false_ne_true, if_neg a]
theorem XO.grows (O : XO h x nr nm) (W : WD h (x + 1) r c) : f8_grows h x = some (I (gw r)) := by
  rw [f8_grows, O.o, Option.bind_some, O.f0, Option.bind_some, W.growth, Option.bind_some]
end
