/-! the reference's public questions over r -/
section
variable {h h' : AH} {m : Nat} {v : Nat → Int} {se : Int64} {g : Nat → Int → Int} {gl : Nat → Int → Int64}
theorem isDay_of {h : AH} {d : Int} (d0 : -2147483648 ≤ d) (d1 : d < 2147483648) : f9_isDay h (I d) = some (decide (0 ≤ d ∧ d ≤ 9999)) := by
  simp (disch := omega) only [f9_isDay, Option.bind_some, I_lit, I_neg, I_add, I_sub, I_mul, I_lt, I_le, I_eq, if_pos, if_neg, if_true, if_false, decide_eq_true_eq]
  by_cases c : d < 0
  · rw [if_pos c, decide_eq_false (by omega)]
  · rw [if_neg c]
    by_cases e : 10000 ≤ d
    · rw [if_pos e, decide_eq_false (by omega)]
    · rw [if_neg e, decide_eq_true (by omega)]
theorem isWeek_of {h : AH} {d : Int} (d0 : -2147483648 ≤ d) (d1 : d < 2147483648) : f9_isWeek h (I d) = some (decide (0 ≤ d ∧ d ≤ 519)) := by
  simp (disch := omega) only [f9_isWeek, Option.bind_some, I_lit, I_neg, I_add, I_sub, I_mul, I_lt, I_le, I_eq, if_pos, if_neg, if_true, if_false, decide_eq_true_eq]
  by_cases c : d < 0
  · rw [if_pos c, decide_eq_false (by omega)]
  · rw [if_neg c]
    by_cases e : 520 ≤ d
    · rw [if_pos e, decide_eq_false (by omega)]
    · rw [if_neg e, decide_eq_true (by omega)]
theorem MO.isPiece (M : MO h m v se g gl) (R : RI (g 1)) {d : Int} (d0 : -2147483648 ≤ d) (d1 : d < 2147483648) : f9_isPiece h m (I d) = some (decide (0 ≤ d ∧ d < g 1 4)) := by
  have b := R.1
  simp (disch := omega) only [f9_isPiece, M.o, M.f0, M.r1, Option.bind_some, I_lit, I_neg, I_add, I_sub, I_mul, I_lt, I_le, I_eq, if_pos, if_neg, if_true, if_false, decide_eq_true_eq]
  by_cases c : d < 0
  · rw [if_pos c, decide_eq_false (by omega)]
  · rw [if_neg c]
    by_cases e : g 1 4 ≤ d
    · rw [if_pos e, decide_eq_false (by omega)]
    · rw [if_neg e, decide_eq_true (by omega)]
theorem MO.isPerson (M : MO h m v se g gl) (R : RI (g 1)) {d : Int} (d0 : -2147483648 ≤ d) (d1 : d < 2147483648) : f9_isPerson h m (I d) = some (decide (0 ≤ d ∧ d < g 1 8)) := by
  have b := R.1
  simp (disch := omega) only [f9_isPerson, M.o, M.f0, M.r1, Option.bind_some, I_lit, I_neg, I_add, I_sub, I_mul, I_lt, I_le, I_eq, if_pos, if_neg, if_true, if_false, decide_eq_true_eq]
  by_cases c : d < 0
  · rw [if_pos c, decide_eq_false (by omega)]
  · rw [if_neg c]
    by_cases e : g 1 8 ≤ d
    · rw [if_pos e, decide_eq_false (by omega)]
    · rw [if_neg e, decide_eq_true (by omega)]
theorem MO.isReader (M : MO h m v se g gl) {d : Int} (d0 : -2147483648 ≤ d) (d1 : d < 2147483648) (n0 : 0 ≤ v 14) (n1 : v 14 ≤ 8) : f9_isReader h m (I d) = some (decide (0 ≤ d ∧ d < v 14)) := by
  simp (disch := omega) only [f9_isReader, M.o, M.f14, Option.bind_some, I_lit, I_neg, I_add, I_sub, I_mul, I_lt, I_le, I_eq, if_pos, if_neg, if_true, if_false, decide_eq_true_eq]
  by_cases c : d < 0
  · rw [if_pos c, decide_eq_false (by omega)]
  · rw [if_neg c]
    by_cases e : v 14 ≤ d
    · rw [if_pos e, decide_eq_false (by omega)]
    · rw [if_neg e, decide_eq_true (by omega)]
theorem MO.isMaker (M : MO h m v se g gl) {d : Int} (d0 : -2147483648 ≤ d) (d1 : d < 2147483648) (n0 : 0 ≤ v 15) (n1 : v 15 ≤ 6) : f9_isMaker h m (I d) = some (decide (0 ≤ d ∧ d < v 15)) := by
  simp (disch := omega) only [f9_isMaker, M.o, M.f15, Option.bind_some, I_lit, I_neg, I_add, I_sub, I_mul, I_lt, I_le, I_eq, if_pos, if_neg, if_true, if_false, decide_eq_true_eq]
  by_cases c : d < 0
  · rw [if_pos c, decide_eq_false (by omega)]
  · rw [if_neg c]
    by_cases e : v 15 ≤ d
    · rw [if_pos e, decide_eq_false (by omega)]
    · rw [if_neg e, decide_eq_true (by omega)]
theorem MO.areTwo (M : MO h m v se g gl) (R : RI (g 1)) {p q : Int} (h0 : -2147483648 ≤ p) (h1 : p < 2147483648) (g0 : -2147483648 ≤ q) (g1 : q < 2147483648) : f9_areTwo h m (I p) (I q) = some (decide (0 ≤ p ∧ p < g 1 4 ∧ 0 ≤ q ∧ q < g 1 4 ∧ p ≠ q)) := by
  simp (disch := omega) only [f9_areTwo, M.o, M.isPiece R, Option.bind_some, I_lit, I_neg, I_add, I_sub, I_mul, I_lt, I_le, I_eq, if_pos, if_neg, if_true, if_false, decide_eq_true_eq]
  by_cases a : 0 ≤ p ∧ p < g 1 4
  · by_cases b : 0 ≤ q ∧ q < g 1 4
    · rw [if_pos a, if_pos b]
      by_cases e : p = q
      · rw [if_pos e, decide_eq_false (by omega)]
      · rw [if_neg e, decide_eq_true (by omega)]
    · rw [if_pos a, if_neg b, decide_eq_false (by omega)]
  · rw [if_neg a, decide_eq_false (by omega)]
theorem MO.isClose (M : MO h m v se g gl) (R : RI (g 1)) {p : Int} (p0 : 0 ≤ p) (p1 : p < g 1 4) : f9_isClose h m (I p) = some (decide (g 1 0 < g 1 (1330 + 10 * p + 9))) := by
  have b := R.1
  have x := (R.2.2.2.2.1 p p0 p1).2.2.2.2.2
  simp (disch := omega) only [f9_isClose, M.o, M.f0, M.r1, M.cell R, Option.bind_some, I_lit, I_neg, I_add, I_sub, I_mul, I_lt, I_le, I_eq, if_pos, if_neg, if_true, if_false, decide_eq_true_eq, ite_ft]
  congr 1
  rw [decide_eq_decide]
  omega
theorem MO.ftL (M : MO h m v se g gl) (R : RI (g 1)) {p : Int} (p0 : -2147483648 ≤ p) (p1 : p < 2147483648) : ∀ (f : Nat) (i a : Int), 0 ≤ i → i ≤ g 1 7 → g 1 7 - i < f → (a = -1 ∨ (0 ≤ a ∧ a ≤ 519 ∧ ∀ k, i ≤ k → k < g 1 7 → a ≤ g 1 (4430 + 3 * k + 2))) → f9_firstTest_11 h m (I p) (I (yo (g 1) p)) f (I a) (I i) = some (I (if a = -1 then fst (tq (g 1) p) (fun k => g 1 (4430 + 3 * k + 2)) (g 1 7 - i).toNat i else a)) := by
  intro f
  have b := R.1
  have y := yo_rng R p
  induction f with
  | zero => intro i a h0 h1; omega
  | succ f ih =>
    intro i a i0 i1 i2 ha
    by_cases c : i < g 1 7
    · have x := R.2.2.2.2.2.2.2.2.1 i i0 c
      have so := R.2.2.2.2.2.2.2.2.2.1
      rw [fst_suc _ _ c]
      by_cases k1 : tq (g 1) p i = true
      · rw [if_pos k1]
        simp only [tq, Bool.and_eq_true, decide_eq_true_eq] at k1
        rcases ha with ha | ha
        · subst ha
          have ih' := ih (i + 1) (g 1 (4430 + 3 * i + 2)) (by omega) (by omega) (by omega) (.inr ⟨by omega, by omega, fun k k0 k2 => so i k i0 (by omega) k2⟩)
          rw [if_neg (by omega)] at ih'
          simp (disch := omega) only [f9_firstTest_11, M.f0, M.r1, I_bit, k1, ih', Option.bind_some, I_lit, I_neg, I_add, I_sub, I_mul, I_lt, I_le, I_eq, if_pos, if_neg, if_true, if_false, decide_eq_true_eq]
        · have hh := ha.2.2 i (by omega) c
          have ih' := ih (i + 1) a (by omega) (by omega) (by omega) (.inr ⟨by omega, by omega, fun k k0 k2 => ha.2.2 k (by omega) k2⟩)
          rw [if_neg (by omega)] at ih'
          simp (disch := omega) only [f9_firstTest_11, M.f0, M.r1, I_bit, k1, ih', Option.bind_some, I_lit, I_neg, I_add, I_sub, I_mul, I_lt, I_le, I_eq, if_pos, if_neg, if_true, if_false, decide_eq_true_eq]
      · have ih' := ih (i + 1) a (by omega) (by omega) (by omega) (ha.imp id fun z => ⟨z.1, z.2.1, fun k k0 k2 => z.2.2 k (by omega) k2⟩)
        rw [if_neg k1]
        rw [Bool.not_eq_true] at k1
        simp only [tq, Bool.and_eq_false_iff, decide_eq_false_iff_not] at k1
        have bt := bi_rng (yo (g 1) p) (g 1 (4430 + 3 * i + 1))
        by_cases k2 : g 1 (4430 + 3 * i) = p
        · simp (disch := omega) only [f9_firstTest_11, M.f0, M.r1, I_bit, k2, ih', Option.bind_some, I_lit, I_neg, I_add, I_sub, I_mul, I_lt, I_le, I_eq, if_pos, if_neg, if_true, if_false, decide_eq_true_eq]
        · simp (disch := omega) only [f9_firstTest_11, M.f0, M.r1, I_bit, k2, ih', Option.bind_some, I_lit, I_neg, I_add, I_sub, I_mul, I_lt, I_le, I_eq, if_pos, if_neg, if_true, if_false, decide_eq_true_eq]
    · rw [fst_end _ _ c]
      simp (disch := omega) only [f9_firstTest_11, M.f0, M.r1, Option.bind_some, I_lit, I_neg, I_add, I_sub, I_mul, I_lt, I_le, I_eq, if_pos, if_neg, if_true, if_false, decide_eq_true_eq]
      congr 2
      split <;> omega
  done
theorem MO.firstTest (M : MO h m v se g gl) (R : RI (g 1)) {p : Int} (p0 : 0 ≤ p) (p1 : p < g 1 4) : f9_firstTest h m (I p) = some (I (ft (g 1) p)) := by
  have b := R.1
  have fu := FU_big
  have := M.ftL R (p := p) (by omega) (by omega) FU 0 (-1) (by omega) (by omega) (by omega) (.inl rfl)
  rw [Int.sub_zero, if_pos rfl] at this
  simp (disch := omega) only [f9_firstTest, M.o, M.young R, Option.bind_some, I_lit, I_neg, I_add, I_sub, I_mul, I_lt, I_le, I_eq, if_pos, if_neg, if_true, if_false, decide_eq_true_eq]
  exact this
theorem MO.slL (M : MO h m v se g gl) (R : RI (g 1)) {p wk : Int} (p0 : -2147483648 ≤ p) (p1 : p < 2147483648) (k0 : 0 ≤ wk) (k1 : wk ≤ 519) : ∀ (f : Nat) (a i : Int), 0 ≤ i → i ≤ g 1 6 → g 1 6 - i < f → 0 ≤ a → a ≤ 2 → f9_stand_40 h m (I p) (I wk) f (I a) (I i) = some (I (fo (fun k m => if (g 1 (3430 + 5 * k + 1) = p ∧ g 1 (3430 + 5 * k + 3) = 0 ∧ g 1 (3430 + 5 * k + 4) ≤ wk) ∧ m < 1 + g 1 (3430 + 5 * k + 2) then 1 + g 1 (3430 + 5 * k + 2) else m) (g 1 6 - i).toNat i a)) := by
  intro f
  have b := R.1
  induction f with
  | zero => intro a i h0 h1; omega
  | succ f ih =>
    intro a i i0 i1 i2 a0 a1
    by_cases c : i < g 1 6
    · have x := R.2.2.2.2.2.2.2.1 i i0 c
      have ih1 := ih a (i + 1) (by omega) (by omega) (by omega) a0 a1
      have ih2 := ih (1 + g 1 (3430 + 5 * i + 2)) (i + 1) (by omega) (by omega) (by omega) (by omega) (by omega)
      rw [fo_suc _ c]
      by_cases c1 : g 1 (3430 + 5 * i + 1) = p
      · by_cases c2 : g 1 (3430 + 5 * i + 3) = 1
        · rw [if_neg (by omega)]
          simp (disch := omega) only [f9_stand_40, M.f0, M.r1, c1, c2, ih1, Option.bind_some, I_lit, I_neg, I_add, I_sub, I_mul, I_lt, I_le, I_eq, if_pos, if_neg, if_true, if_false, decide_eq_true_eq]
        · by_cases c3 : g 1 (3430 + 5 * i + 4) ≤ wk
          · by_cases c4 : a < 1 + g 1 (3430 + 5 * i + 2)
            · rw [if_pos (by omega)]
              simp (disch := omega) only [f9_stand_40, M.f0, M.r1, c1, c2, c3, ih2, Option.bind_some, I_lit, I_neg, I_add, I_sub, I_mul, I_lt, I_le, I_eq, if_pos, if_neg, if_true, if_false, decide_eq_true_eq]
            · rw [if_neg (by omega)]
              simp (disch := omega) only [f9_stand_40, M.f0, M.r1, c1, c2, c3, ih1, Option.bind_some, I_lit, I_neg, I_add, I_sub, I_mul, I_lt, I_le, I_eq, if_pos, if_neg, if_true, if_false, decide_eq_true_eq]
          · rw [if_neg (by omega)]
            simp (disch := omega) only [f9_stand_40, M.f0, M.r1, c1, c2, c3, ih1, Option.bind_some, I_lit, I_neg, I_add, I_sub, I_mul, I_lt, I_le, I_eq, if_pos, if_neg, if_true, if_false, decide_eq_true_eq]
      · rw [if_neg (by omega)]
        simp (disch := omega) only [f9_stand_40, M.f0, M.r1, c1, ih1, Option.bind_some, I_lit, I_neg, I_add, I_sub, I_mul, I_lt, I_le, I_eq, if_pos, if_neg, if_true, if_false, decide_eq_true_eq]
    · rw [fo_end _ c]
      simp (disch := omega) only [f9_stand_40, M.f0, M.r1, Option.bind_some, I_lit, I_neg, I_add, I_sub, I_mul, I_lt, I_le, I_eq, if_pos, if_neg, if_true, if_false, decide_eq_true_eq]
  done
theorem MO.stand (M : MO h m v se g gl) (R : RI (g 1)) {p wk : Int} (p0 : -2147483648 ≤ p) (p1 : p < 2147483648) (k0 : -2147483648 ≤ wk) (k1 : wk < 2147483648) : f9_stand h m (I p) (I wk) = some (I (if (0 ≤ p ∧ p < g 1 4) ∧ 0 ≤ wk ∧ wk ≤ 519 then sd (g 1) p wk else -1)) := by
  have b := R.1
  have fu := FU_big
  simp (disch := omega) only [f9_stand, M.o, M.isPiece R, isWeek_of, Option.bind_some, I_lit, I_neg, I_add, I_sub, I_mul, I_lt, I_le, I_eq, if_pos, if_neg, if_true, if_false, decide_eq_true_eq]
  by_cases c : 0 ≤ p ∧ p < g 1 4
  · rw [if_pos c]
    by_cases c2 : 0 ≤ wk ∧ wk ≤ 519
    · rw [if_pos c2, if_pos ⟨c, c2⟩]
      have t := ft_rng R p
      have := M.slL R p0 p1 c2.1 c2.2 FU 0 0 (by omega) (by omega) (by omega) (by omega) (by omega)
      rw [Int.sub_zero] at this
      simp (disch := omega) only [M.firstTest R, Option.bind_some, I_lit, I_neg, I_add, I_sub, I_mul, I_lt, I_le, I_eq, if_pos, if_neg, if_true, if_false, decide_eq_true_eq, this, sd]
      by_cases c3 : ft (g 1) p < 0
      · rw [if_pos c3, if_neg (by omega)]; rfl
      · rw [if_neg c3]
        by_cases c4 : wk < ft (g 1) p
        · rw [if_pos c4, if_neg (by omega)]; rfl
        · rw [if_neg c4, if_pos (by omega)]
    · rw [if_neg c2, if_neg (fun z => c2 z.2)]
  · rw [if_neg c, if_neg (fun z => c z.1)]
theorem MO.cost (M : MO h m v se g gl) (R : RI (g 1)) {p : Int} (p0 : -2147483648 ≤ p) (p1 : p < 2147483648) : f9_cost h m (I p) = some (I (if 0 ≤ p ∧ p < g 1 4 then co (g 1) p else -1)) := by
  have b := R.1
  have fu := FU_big
  have y := yo_rng R p
  have t := ft_rng R p
  simp (disch := omega) only [f9_cost, M.o, M.isPiece R, Option.bind_some, I_lit, I_neg, I_add, I_sub, I_mul, I_lt, I_le, I_eq, if_pos, if_neg, if_true, if_false, decide_eq_true_eq]
  by_cases c : 0 ≤ p ∧ p < g 1 4
  · rw [if_pos c, if_pos c]
    simp (disch := omega) only [M.young R, M.firstTest R, M.cell R, M.f0, M.r1, Option.bind_some, I_lit, I_neg, I_add, I_sub, I_mul, I_lt, I_le, I_eq, if_pos, if_neg, if_true, if_false, decide_eq_true_eq, co]
    by_cases c3 : yo (g 1) p = 0
    · rw [if_pos c3, if_pos c3]
    · rw [if_neg c3, if_neg c3]
      by_cases c4 : ft (g 1) p < 0
      · rw [if_neg (by omega), if_pos c4]
      · rw [if_pos (by omega), if_neg c4]
  · rw [if_neg c, if_neg c]
theorem MO.chL (M : MO h m v se g gl) (R : RI (g 1)) {p : Int} : ∀ (f : Nat) (a i : Int), 0 ≤ i → i ≤ g 1 1 → g 1 1 - i < f → -2 ≤ a → a < i → f9_cheapest_22 h m (I (yo (g 1) p)) f (I a) (I i) = some (I (fo (fun k b => if bi (yo (g 1) p) k = 1 ∧ (b < 0 ∨ g 1 (10 + 2 * k + 1) < g 1 (10 + 2 * b + 1)) then k else b) (g 1 1 - i).toNat i a)) := by
  intro f
  have b := R.1
  have y := yo_rng R p
  induction f with
  | zero => intro a i h0 h1; omega
  | succ f ih =>
    intro a i i0 i1 i2 a0 a1
    by_cases c : i < g 1 1
    · have st := R.2.1 i i0 c
      have bt := bi_rng (yo (g 1) p) i
      have ih1 := ih i (i + 1) (by omega) (by omega) (by omega) (by omega) (by omega)
      have ih2 := ih a (i + 1) (by omega) (by omega) (by omega) (by omega) (by omega)
      rw [fo_suc _ c]
      by_cases k1 : bi (yo (g 1) p) i = 1
      · by_cases k2 : a < 0
        · rw [if_pos ⟨k1, .inl k2⟩]
          simp (disch := omega) only [f9_cheapest_22, M.f0, M.r1, I_bit, k1, ih1, Option.bind_some, I_lit, I_neg, I_add, I_sub, I_mul, I_lt, I_le, I_eq, if_pos, if_neg, if_true, if_false, decide_eq_true_eq]
        · have sm := R.2.1 a (by omega) (by omega)
          by_cases k3 : g 1 (10 + 2 * i + 1) < g 1 (10 + 2 * a + 1)
          · rw [if_pos ⟨k1, .inr k3⟩]
            simp (disch := omega) only [f9_cheapest_22, M.f0, M.r1, I_bit, k1, ih1, Option.bind_some, I_lit, I_neg, I_add, I_sub, I_mul, I_lt, I_le, I_eq, if_pos, if_neg, if_true, if_false, decide_eq_true_eq]
          · rw [if_neg (fun z => z.2.elim k2 k3)]
            simp (disch := omega) only [f9_cheapest_22, M.f0, M.r1, I_bit, k1, ih2, Option.bind_some, I_lit, I_neg, I_add, I_sub, I_mul, I_lt, I_le, I_eq, if_pos, if_neg, if_true, if_false, decide_eq_true_eq]
      · rw [if_neg (fun z => k1 z.1)]
        simp (disch := omega) only [f9_cheapest_22, M.f0, M.r1, I_bit, k1, ih2, Option.bind_some, I_lit, I_neg, I_add, I_sub, I_mul, I_lt, I_le, I_eq, if_pos, if_neg, if_true, if_false, decide_eq_true_eq]
    · rw [fo_end _ c]
      simp (disch := omega) only [f9_cheapest_22, M.f0, M.r1, Option.bind_some, I_lit, I_neg, I_add, I_sub, I_mul, I_lt, I_le, I_eq, if_pos, if_neg, if_true, if_false, decide_eq_true_eq]
  done
theorem MO.cheapest (M : MO h m v se g gl) (R : RI (g 1)) {p : Int} (p0 : -2147483648 ≤ p) (p1 : p < 2147483648) : f9_cheapest h m (I p) = some (I (if 0 ≤ p ∧ p < g 1 4 then ch (g 1) p else -1)) := by
  have b := R.1
  have fu := FU_big
  simp (disch := omega) only [f9_cheapest, M.o, M.isPiece R, Option.bind_some, I_lit, I_neg, I_add, I_sub, I_mul, I_lt, I_le, I_eq, if_pos, if_neg, if_true, if_false, decide_eq_true_eq]
  by_cases c : 0 ≤ p ∧ p < g 1 4
  · rw [if_pos c, if_pos c]
    have := M.chL R (p := p) FU (-2) 0 (by omega) (by omega) (by omega) (by omega) (by omega)
    rw [Int.sub_zero] at this
    simp (disch := omega) only [M.young R, Option.bind_some, I_lit, I_neg, I_add, I_sub, I_mul, I_lt, I_le, I_eq, if_pos, if_neg, if_true, if_false, decide_eq_true_eq]
    exact this
  · rw [if_neg c, if_neg c]
theorem sw_rng {r : Int → Int} (R : RI r) (p s : Int) : 0 ≤ sw r p s ∧ sw r p s ≤ 400 := by
  have b := R.1
  have n := pq_nn r p fun d l => sh r d l s
  unfold sw
  omega
theorem MO.liL (M : MO h m v se g gl) (R : RI (g 1)) {p : Int} (p0 : -2147483648 ≤ p) (p1 : p < 2147483648) : ∀ (f : Nat) (x : Int × Int) (i : Int), 0 ≤ i → i ≤ 6 → 6 - i < f → 0 ≤ x.2 → x.2 ≤ 400 → f9_likely_18 h m (I p) f (I x.1) (I x.2) (I i) = some (I (fo (fun s x => if x.2 < sw (g 1) p s then (s, sw (g 1) p s) else x) (6 - i).toNat i x).1) := by
  intro f
  induction f with
  | zero => intro x i h0 h1; omega
  | succ f ih =>
    intro x i i0 i1 i2 m0 m1
    by_cases c : i < 6
    · have n := sw_rng R p i
      rw [fo_suc _ c]
      by_cases k : x.2 < sw (g 1) p i
      · have ih' := ih (i, sw (g 1) p i) (i + 1) (by omega) (by omega) (by omega) (by simp only []; omega) (by simp only []; omega)
        rw [if_pos k]
        simp only [] at ih'
        simp (disch := omega) only [f9_likely_18, M.sharedWith R, ih', Option.bind_some, I_lit, I_neg, I_add, I_sub, I_mul, I_lt, I_le, I_eq, if_pos, if_neg, if_true, if_false, decide_eq_true_eq]
      · have ih' := ih x (i + 1) (by omega) (by omega) (by omega) m0 m1
        rw [if_neg k]
        simp (disch := omega) only [f9_likely_18, M.sharedWith R, ih', Option.bind_some, I_lit, I_neg, I_add, I_sub, I_mul, I_lt, I_le, I_eq, if_pos, if_neg, if_true, if_false, decide_eq_true_eq]
    · rw [fo_end _ c]
      simp (disch := omega) only [f9_likely_18, Option.bind_some, I_lit, I_neg, I_add, I_sub, I_mul, I_lt, I_le, I_eq, if_pos, if_neg, if_true, if_false, decide_eq_true_eq]
  done
theorem MO.likely (M : MO h m v se g gl) (R : RI (g 1)) {p : Int} (p0 : -2147483648 ≤ p) (p1 : p < 2147483648) : f9_likely h m (I p) = some (I (if 0 ≤ p ∧ p < g 1 4 then (li (g 1) p).1 else -1)) := by
  have fu := FU_big
  simp (disch := omega) only [f9_likely, M.o, M.isPiece R, Option.bind_some, I_lit, I_neg, I_add, I_sub, I_mul, I_lt, I_le, I_eq, if_pos, if_neg, if_true, if_false, decide_eq_true_eq]
  by_cases c : 0 ≤ p ∧ p < g 1 4
  · rw [if_pos c, if_pos c]
    exact M.liL R p0 p1 FU (-2, 0) 0 (by omega) (by omega) (by omega) (by simp) (by simp)
  · rw [if_neg c, if_neg c]
def ki (r : Int → Int) (a b : Int) : Int := cn (fun s => decide (0 < sw r a s) && decide (0 < sw r b s)) 6 0
theorem MO.kinL (M : MO h m v se g gl) (R : RI (g 1)) {p q : Int} (p0 : -2147483648 ≤ p) (p1 : p < 2147483648) (q0 : -2147483648 ≤ q) (q1 : q < 2147483648) : ∀ (f : Nat) (a i : Int), 0 ≤ i → i ≤ 6 → 6 - i < f → f9_kin_16 h m (I p) (I q) f (I a) (I i) = some (I (a + cn (fun s => decide (0 < sw (g 1) p s) && decide (0 < sw (g 1) q s)) (6 - i).toNat i)) := by
  intro f
  induction f with
  | zero => intro a i h0 h1; omega
  | succ f ih =>
    intro a i i0 i1 i2
    by_cases c : i < 6
    · have n := sw_rng R p i
      have n' := sw_rng R q i
      have ih1 := ih (a + 1) (i + 1) (by omega) (by omega) (by omega)
      have ih2 := ih a (i + 1) (by omega) (by omega) (by omega)
      rw [cn_suc _ c]
      by_cases k1 : 0 < sw (g 1) p i
      · by_cases k2 : 0 < sw (g 1) q i
        · rw [decide_eq_true k1, decide_eq_true k2, Bool.and_self, if_pos rfl, ← Int.add_assoc]
          simp (disch := omega) only [f9_kin_16, M.sharedWith R, ih1, Option.bind_some, I_lit, I_neg, I_add, I_sub, I_mul, I_lt, I_le, I_eq, if_pos, if_neg, if_true, if_false, decide_eq_true_eq]
        · rw [decide_eq_false k2, Bool.and_false]
          simp (disch := omega) only [f9_kin_16, M.sharedWith R, ih2, Option.bind_some, I_lit, I_neg, I_add, I_sub, I_mul, I_lt, I_le, I_eq, if_pos, if_neg, if_true, if_false, decide_eq_true_eq, Bool.false_eq_true, Int.zero_add, Int.add_zero]
      · rw [decide_eq_false k1, Bool.false_and]
        simp (disch := omega) only [f9_kin_16, M.sharedWith R, ih2, Option.bind_some, I_lit, I_neg, I_add, I_sub, I_mul, I_lt, I_le, I_eq, if_pos, if_neg, if_true, if_false, decide_eq_true_eq, Bool.false_eq_true, Int.zero_add, Int.add_zero]
    · rw [cn_end _ c]
      simp (disch := omega) only [f9_kin_16, Option.bind_some, I_lit, I_neg, I_add, I_sub, I_mul, I_lt, I_le, I_eq, if_pos, if_neg, if_true, if_false, decide_eq_true_eq, Int.add_zero]
  done
theorem MO.kin (M : MO h m v se g gl) (R : RI (g 1)) {p q : Int} (h0 : -2147483648 ≤ p) (h1 : p < 2147483648) (g0 : -2147483648 ≤ q) (g1 : q < 2147483648) : f9_kin h m (I p) (I q) = some (I (if 0 ≤ p ∧ p < g 1 4 ∧ 0 ≤ q ∧ q < g 1 4 ∧ p ≠ q then ki (g 1) p q else -1)) := by
  have fu := FU_big
  have := M.kinL R h0 h1 g0 g1 FU 0 0 (by omega) (by omega) (by omega)
  rw [Int.zero_add] at this
  simp (disch := omega) only [f9_kin, M.o, M.areTwo R, this, Option.bind_some, I_lit, I_neg, I_add, I_sub, I_mul, I_lt, I_le, I_eq, if_pos, if_neg, if_true, if_false, decide_eq_true_eq]
  by_cases c : 0 ≤ p ∧ p < g 1 4 ∧ 0 ≤ q ∧ q < g 1 4 ∧ p ≠ q
  · rw [if_pos c, if_pos c]; rfl
  · rw [if_neg c, if_neg c]
end
