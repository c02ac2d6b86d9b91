section
variable {h h' : AH} {m : Nat} {v : Nat → Int} {se : Int64} {g : Nat → Int → Int} {gl : Nat → Int → Int64}
theorem MO.of_ (M : MO h m v se g gl) (R : RI (g 1)) {p w : Int} (p0 : -2147483648 ≤ p) (p1 : p < 2147483648) (w0 : -2147483648 ≤ w) (w1 : w < 2147483648) : f9_of h m (I p) (I w) = some (I (if (0 ≤ p ∧ p < g 1 4) ∧ 0 ≤ w ∧ w ≤ 7 then (if w < 4 then pq (g 1) p (pw (g 1) w) else if w = 4 then ag (g 1) p else if w = 5 then g 1 (1330 + 10 * p + 8) else if w = 6 then g 1 (1330 + 10 * p + 6) else yo (g 1) p) else -1)) := by
  simp (disch := omega) only [f9_of, M.o, M.isPiece R, Option.bind_some, I_lit, I_neg, I_add, I_sub, I_mul, I_lt, I_le, I_eq, if_pos, if_neg, if_true, if_false, decide_eq_true_eq, J_lit, J_neg, J_add, J_sub, J_mul, J_lt, J_le, J_eq, I_toJ, in_of]
  by_cases c : 0 ≤ p ∧ p < g 1 4
  · rw [if_pos c]
    by_cases c2 : 0 ≤ w ∧ w ≤ 7
    · rw [if_pos c2, if_pos (show (0 ≤ p ∧ p < g 1 4) ∧ 0 ≤ w ∧ w ≤ 7 from ⟨c, c2⟩)]
      by_cases c3 : w < 4
      · rw [if_neg (by omega), if_pos c3, M.pagesOf R p0 p1 c2.1 (by omega), Option.bind_some]
      · rw [if_pos (by omega), if_neg c3]
        by_cases c4 : w = 4
        · rw [if_pos c4, if_pos c4, M.age R p0 p1, Option.bind_some]
        · rw [if_neg c4, if_neg c4]
          by_cases c5 : w = 5
          · rw [if_pos c5, if_pos c5, M.cell R c.1 c.2 (by omega) (by omega), Option.bind_some]
          · rw [if_neg c5, if_neg c5]
            by_cases c6 : w = 6
            · rw [if_pos c6, if_pos c6, M.cell R c.1 c.2 (by omega) (by omega), Option.bind_some]
            · rw [if_neg c6, if_neg c6, M.young R c.1 c.2, Option.bind_some]
    · rw [if_neg c2, if_neg (fun z => c2 z.2)]
  · rw [if_neg c, if_neg (fun z => c z.1)]
theorem MO.shared (M : MO h m v se g gl) (R : RI (g 1)) {p s : Int} (p0 : -2147483648 ≤ p) (p1 : p < 2147483648) (w0 : -2147483648 ≤ s) (w1 : s < 2147483648) : f9_shared h m (I p) (I s) = some (I (if (0 ≤ p ∧ p < g 1 4) ∧ 0 ≤ s ∧ s ≤ 5 then sw (g 1) p s else -1)) := by
  simp (disch := omega) only [f9_shared, M.o, M.isPiece R, Option.bind_some, I_lit, I_neg, I_add, I_sub, I_mul, I_lt, I_le, I_eq, if_pos, if_neg, if_true, if_false, decide_eq_true_eq, J_lit, J_neg, J_add, J_sub, J_mul, J_lt, J_le, J_eq, I_toJ, in_of]
  by_cases c : 0 ≤ p ∧ p < g 1 4
  · rw [if_pos c]
    by_cases c2 : 0 ≤ s ∧ s ≤ 5
    · rw [if_pos c2, if_pos ⟨c, c2⟩, M.sharedWith R p0 p1 c2.1 w1, Option.bind_some]
    · rw [if_neg c2, if_neg (fun z => c2 z.2)]
  · rw [if_neg c, if_neg (fun z => c z.1)]
theorem pe_rng {r : Int → Int} (R : RI r) {e : Int} (e0 : 0 ≤ e) (e1 : e < r 8) : 0 ≤ r (5030 + 5 * e) ∧ r (5030 + 5 * e) ≤ r (5030 + 5 * e + 1) ∧ r (5030 + 5 * e + 1) ≤ 9999 ∧ 0 ≤ r (5030 + 5 * e + 2) ∧ r (5030 + 5 * e + 2) ≤ 999 ∧ 0 ≤ r (5030 + 5 * e + 3) ∧ r (5030 + 5 * e + 3) ≤ 519 ∧ -1 ≤ r (5030 + 5 * e + 4) ∧ r (5030 + 5 * e + 4) ≤ 519 := R.2.2.2.2.2.2.2.2.2.2 e e0 e1
theorem pg_rng {r : Int → Int} (R : RI r) {k : Int} (e0 : 0 ≤ k) (e1 : k < r 5) : 0 ≤ r (2230 + 3 * k) ∧ r (2230 + 3 * k) < r 4 ∧ 0 ≤ r (2230 + 3 * k + 1) ∧ r (2230 + 3 * k + 1) ≤ 9999 ∧ 0 ≤ r (2230 + 3 * k + 2) ∧ r (2230 + 3 * k + 2) ≤ 99 := R.2.2.2.2.2.2.1 k e0 e1
theorem pi_rng {r : Int → Int} (R : RI r) {k : Int} (e0 : 0 ≤ k) (e1 : k < r 4) : (0 ≤ r (1330 + 10 * k) ∧ r (1330 + 10 * k) ≤ 2) ∧ (∀ c, 1 ≤ c → c ≤ 5 → 0 ≤ r (1330 + 10 * k + c) ∧ r (1330 + 10 * k + c) ≤ 99) ∧ (0 ≤ r (1330 + 10 * k + 6) ∧ r (1330 + 10 * k + 6) < 2 ^ (r 1).toNat) ∧ (0 ≤ r (1330 + 10 * k + 7) ∧ r (1330 + 10 * k + 7) ≤ 9999) ∧ (0 ≤ r (1330 + 10 * k + 8) ∧ r (1330 + 10 * k + 8) ≤ r 0) ∧ (0 ≤ r (1330 + 10 * k + 9) ∧ r (1330 + 10 * k + 9) ≤ 519) := R.2.2.2.2.1 k e0 e1
theorem MO.knL (M : MO h m v se g gl) (R : RI (g 1)) {p e : Int} (p0 : -2147483648 ≤ p) (p1 : p < 2147483648) (e0 : 0 ≤ e) (e1 : e < g 1 8) : ∀ (f : Nat) (i : Int), 0 ≤ i → i ≤ g 1 5 → g 1 5 - i < f → f9_knew_11 h m (I p) (I (5030 + 5 * e)) f (I i) = some (decide (0 < cn (fun k => decide (g 1 (2230 + 3 * k) = p) && (decide (g 1 (5030 + 5 * e) ≤ g 1 (2230 + 3 * k + 1) ∧ g 1 (2230 + 3 * k + 1) ≤ g 1 (5030 + 5 * e + 1)) && wr (g 1) (g 1 (2230 + 3 * k + 1)) (g 1 (2230 + 3 * k + 2)))) (g 1 5 - i).toNat i)) := by
  intro f
  have b := R.1
  have pe := pe_rng R e0 e1
  induction f with
  | zero => intro i h0 h1; omega
  | succ f ih =>
    intro i i0 i1 i2
    by_cases c : i < g 1 5
    · have x := pg_rng R i0 c
      have ih' := ih (i + 1) (by omega) (by omega) (by omega)
      rw [cn_suc _ c]
      have nn := cn_nn (fun k => decide (g 1 (2230 + 3 * k) = p) && (decide (g 1 (5030 + 5 * e) ≤ g 1 (2230 + 3 * k + 1) ∧ g 1 (2230 + 3 * k + 1) ≤ g 1 (5030 + 5 * e + 1)) && wr (g 1) (g 1 (2230 + 3 * k + 1)) (g 1 (2230 + 3 * k + 2)))) (g 1 5 - (i + 1)).toNat (i + 1)
      by_cases k1 : g 1 (2230 + 3 * i) = p
      · by_cases k2 : g 1 (5030 + 5 * e) ≤ g 1 (2230 + 3 * i + 1) ∧ g 1 (2230 + 3 * i + 1) ≤ g 1 (5030 + 5 * e + 1)
        · rw [decide_eq_true k1, decide_eq_true k2, Bool.true_and, Bool.true_and]
          cases q : wr (g 1) (g 1 (2230 + 3 * i + 1)) (g 1 (2230 + 3 * i + 2))
          · simp (disch := omega) only [f9_knew_11, M.f0, M.r1, M.isWrong R, q, k1, k2, ih', Option.bind_some, I_lit, I_neg, I_add, I_sub, I_mul, I_lt, I_le, I_eq, if_pos, if_neg, if_true, if_false, decide_eq_true_eq, J_lit, J_neg, J_add, J_sub, J_mul, J_lt, J_le, J_eq, I_toJ, in_of, Bool.false_eq_true, Int.zero_add, and_self]
          · simp (disch := omega) only [f9_knew_11, M.f0, M.r1, M.isWrong R, q, k1, k2, ih', Option.bind_some, I_lit, I_neg, I_add, I_sub, I_mul, I_lt, I_le, I_eq, if_pos, if_neg, if_true, if_false, decide_eq_true_eq, J_lit, J_neg, J_add, J_sub, J_mul, J_lt, J_le, J_eq, I_toJ, in_of, Bool.false_eq_true, Int.zero_add, and_self]
            rw [decide_eq_true (by omega)]
        · rw [decide_eq_false k2, Bool.false_and, Bool.and_false]
          simp (disch := omega) only [f9_knew_11, M.f0, M.r1, k1, k2, ih', Option.bind_some, I_lit, I_neg, I_add, I_sub, I_mul, I_lt, I_le, I_eq, if_pos, if_neg, if_true, if_false, decide_eq_true_eq, J_lit, J_neg, J_add, J_sub, J_mul, J_lt, J_le, J_eq, I_toJ, in_of, Bool.false_eq_true, Int.zero_add, and_self]
      · rw [decide_eq_false k1, Bool.false_and]
        simp (disch := omega) only [f9_knew_11, M.f0, M.r1, k1, ih', Option.bind_some, I_lit, I_neg, I_add, I_sub, I_mul, I_lt, I_le, I_eq, if_pos, if_neg, if_true, if_false, decide_eq_true_eq, J_lit, J_neg, J_add, J_sub, J_mul, J_lt, J_le, J_eq, I_toJ, in_of, Bool.false_eq_true, Int.zero_add]
    · rw [cn_end _ c]
      simp (disch := omega) only [f9_knew_11, M.f0, M.r1, Option.bind_some, I_lit, I_neg, I_add, I_sub, I_mul, I_lt, I_le, I_eq, if_pos, if_neg, if_true, if_false, decide_eq_true_eq, J_lit, J_neg, J_add, J_sub, J_mul, J_lt, J_le, J_eq, I_toJ, in_of]
      rfl
  done
theorem MO.knew (M : MO h m v se g gl) (R : RI (g 1)) {p e : Int} (p0 : -2147483648 ≤ p) (p1 : p < 2147483648) (e0 : 0 ≤ e) (e1 : e < g 1 8) : f9_knew h m (I e) (I p) = some (kn (g 1) e p) := by
  have b := R.1
  have fu := FU_big
  have := M.knL R p0 p1 e0 e1 FU 0 (by omega) (by omega) (by omega)
  rw [Int.sub_zero] at this
  simp (disch := omega) only [f9_knew, M.o, Option.bind_some, I_lit, I_neg, I_add, I_sub, I_mul, I_lt, I_le, I_eq, if_pos, if_neg, if_true, if_false, decide_eq_true_eq, J_lit, J_neg, J_add, J_sub, J_mul, J_lt, J_le, J_eq, I_toJ, in_of]
  exact this
theorem ori_0 {a : Int} (h : 0 ≤ a) : ori a 0 = a := by
  unfold ori
  rw [show (0 : Int).toNat = 0 from rfl, Nat.or_zero, Int.toNat_of_nonneg h]
theorem pow8 {r : Int → Int} (R : RI r) (q : Int → Bool) {i : Int} (h0 : 0 ≤ i) (h1 : i ≤ r 8) : 0 ≤ bs q i.toNat ∧ bs q i.toNat ≤ 255 := by
  have b := R.1
  have a := bs_rng q i.toNat
  have e : (2 : Nat) ^ i.toNat ≤ 2 ^ 8 := Nat.pow_le_pow_right (by omega) (by omega)
  have e2 : ((2 ^ i.toNat : Nat) : Int) = 2 ^ i.toNat := by rw [Int.natCast_pow]; rfl
  omega
theorem MO.unL (M : MO h m v se g gl) (R : RI (g 1)) {p wk : Int} (p0 : -2147483648 ≤ p) (p1 : p < 2147483648) (k0 : 0 ≤ wk) (k1 : wk ≤ 519) : ∀ (f : Nat) (i : Int), 0 ≤ i → i ≤ g 1 8 → g 1 8 - i < f → f9_unasked_22 h m (I p) (I wk) f (I (bs (uq (g 1) p wk) i.toNat)) (I i) = some (I (bs (uq (g 1) p wk) (g 1 8).toNat)) := by
  intro f
  have b := R.1
  induction f with
  | zero => intro i h0 h1; omega
  | succ f ih =>
    intro i i0 i1 i2
    by_cases c : i < g 1 8
    · have x := pe_rng R i0 c
      have ih' := ih (i + 1) (by omega) (by omega) (by omega)
      have p8 := pow8 R (uq (g 1) p wk) i0 i1
      have skip : uq (g 1) p wk i = false → f9_unasked_22 h m (I p) (I wk) f (I (bs (uq (g 1) p wk) i.toNat) ||| I 0) (I (i + 1)) = some (I (bs (uq (g 1) p wk) (g 1 8).toNat)) := fun q => by
        rw [I_or p8.1 (by omega) (by omega) (by omega), ori_0 p8.1, ← bs_skip i0 q]; exact ih'
      by_cases c1 : g 1 (5030 + 5 * i + 4) < 0 ∨ wk < g 1 (5030 + 5 * i + 4)
      · by_cases c2 : kn (g 1) i p = true
        · have q : uq (g 1) p wk i = true := by simp [uq, c1, c2]
          rw [← bs_or i0 (by omega) q] at ih'
          by_cases c3 : g 1 (5030 + 5 * i + 4) < 0
          · simp (disch := omega) only [f9_unasked_22, f9_unasked_63, M.f0, M.r1, M.knew R, c2, c3, Option.bind_some, I_lit, I_neg, I_add, I_sub, I_mul, I_lt, I_le, I_eq, if_pos, if_neg, if_true, if_false, decide_eq_true_eq, J_lit, J_neg, J_add, J_sub, J_mul, J_lt, J_le, J_eq, I_toJ, in_of]
            exact ih'
          · simp (disch := omega) only [f9_unasked_22, f9_unasked_63, M.f0, M.r1, M.knew R, c2, c3, Option.bind_some, I_lit, I_neg, I_add, I_sub, I_mul, I_lt, I_le, I_eq, if_pos, if_neg, if_true, if_false, decide_eq_true_eq, J_lit, J_neg, J_add, J_sub, J_mul, J_lt, J_le, J_eq, I_toJ, in_of]
            exact ih'
        · rw [Bool.not_eq_true] at c2
          have q : uq (g 1) p wk i = false := by simp [uq, c2]
          have := skip q
          by_cases c3 : g 1 (5030 + 5 * i + 4) < 0
          · simp (disch := omega) only [f9_unasked_22, f9_unasked_63, M.f0, M.r1, M.knew R, c2, c3, Option.bind_some, I_lit, I_neg, I_add, I_sub, I_mul, I_lt, I_le, I_eq, if_pos, if_neg, if_true, if_false, decide_eq_true_eq, J_lit, J_neg, J_add, J_sub, J_mul, J_lt, J_le, J_eq, I_toJ, in_of, Bool.false_eq_true]
            exact this
          · simp (disch := omega) only [f9_unasked_22, f9_unasked_63, M.f0, M.r1, M.knew R, c2, c3, Option.bind_some, I_lit, I_neg, I_add, I_sub, I_mul, I_lt, I_le, I_eq, if_pos, if_neg, if_true, if_false, decide_eq_true_eq, J_lit, J_neg, J_add, J_sub, J_mul, J_lt, J_le, J_eq, I_toJ, in_of, Bool.false_eq_true]
            exact this
      · have q : uq (g 1) p wk i = false := by simp [uq, c1]
        have := skip q
        simp (disch := omega) only [f9_unasked_22, f9_unasked_63, M.f0, M.r1, Option.bind_some, I_lit, I_neg, I_add, I_sub, I_mul, I_lt, I_le, I_eq, if_pos, if_neg, if_true, if_false, decide_eq_true_eq, J_lit, J_neg, J_add, J_sub, J_mul, J_lt, J_le, J_eq, I_toJ, in_of]
        exact this
    · have : i = g 1 8 := by omega
      subst this
      simp (disch := omega) only [f9_unasked_22, M.f0, M.r1, Option.bind_some, I_lit, I_neg, I_add, I_sub, I_mul, I_lt, I_le, I_eq, if_pos, if_neg, if_true, if_false, decide_eq_true_eq, J_lit, J_neg, J_add, J_sub, J_mul, J_lt, J_le, J_eq, I_toJ, in_of]
  done
theorem MO.unasked (M : MO h m v se g gl) (R : RI (g 1)) {p wk : Int} (p0 : -2147483648 ≤ p) (p1 : p < 2147483648) (k0 : -2147483648 ≤ wk) (k1 : wk < 2147483648) : f9_unasked h m (I p) (I wk) = some (I (if (0 ≤ p ∧ p < g 1 4) ∧ 0 ≤ wk ∧ wk ≤ 519 then bs (uq (g 1) p wk) (g 1 8).toNat else -1)) := by
  have b := R.1
  have fu := FU_big
  simp (disch := omega) only [f9_unasked, M.o, M.isPiece R, isWeek_of, Option.bind_some, I_lit, I_neg, I_add, I_sub, I_mul, I_lt, I_le, I_eq, if_pos, if_neg, if_true, if_false, decide_eq_true_eq]
  by_cases c : 0 ≤ p ∧ p < g 1 4
  · rw [if_pos c]
    by_cases c2 : 0 ≤ wk ∧ wk ≤ 519
    · rw [if_pos c2, if_pos ⟨c, c2⟩]
      exact M.unL R p0 p1 c2.1 c2.2 FU 0 (by omega) (by omega) (by omega)
    · rw [if_neg c2, if_neg (fun z => c2 z.2)]
  · rw [if_neg c, if_neg (fun z => c z.1)]
theorem MO.gaL (M : MO h m v se g gl) (R : RI (g 1)) {e wk : Int} (e0 : 0 ≤ e) (e1 : e < g 1 8) (k0 : 0 ≤ wk) (k1 : wk ≤ 519) : ∀ (f : Nat) (a i : Int), 0 ≤ i → i ≤ g 1 4 → g 1 4 - i < f → f9_gain_22 h m (I e) (I wk) f (I a) (I i) = some (I ((a + cn (fun p => decide (g 1 (1330 + 10 * p) = 0) && decide (g 1 (5030 + 5 * e + 3) ≤ g 1 (1330 + 10 * p + 8) ∧ g 1 (1330 + 10 * p + 8) ≤ wk)) (g 1 4 - i).toNat i) * g 1 (5030 + 5 * e + 2))) := by
  intro f
  have b := R.1
  have pe := pe_rng R e0 e1
  induction f with
  | zero => intro a i h0 h1; omega
  | succ f ih =>
    intro a i i0 i1 i2
    by_cases c : i < g 1 4
    · have x := pi_rng R i0 c
      have x0 := x.1
      have x8 := x.2.2.2.2.1
      have ih1 := ih (a + 1) (i + 1) (by omega) (by omega) (by omega)
      have ih2 := ih a (i + 1) (by omega) (by omega) (by omega)
      rw [cn_suc _ c]
      by_cases k1 : g 1 (1330 + 10 * i) = 0
      · by_cases k2 : g 1 (5030 + 5 * e + 3) ≤ g 1 (1330 + 10 * i + 8) ∧ g 1 (1330 + 10 * i + 8) ≤ wk
        · rw [decide_eq_true k1, decide_eq_true k2, Bool.and_self, if_pos rfl, ← Int.add_assoc]
          simp (disch := omega) only [f9_gain_22, M.f0, M.r1, M.cell0 R, M.cell R, k1, k2, ih1, Option.bind_some, I_lit, I_neg, I_add, I_sub, I_mul, I_lt, I_le, I_eq, if_pos, if_neg, if_true, if_false, decide_eq_true_eq, J_lit, J_neg, J_add, J_sub, J_mul, J_lt, J_le, J_eq, I_toJ, in_of, and_self]
        · rw [decide_eq_false k2, Bool.and_false]
          simp (disch := omega) only [f9_gain_22, M.f0, M.r1, M.cell0 R, M.cell R, k1, k2, ih2, Option.bind_some, I_lit, I_neg, I_add, I_sub, I_mul, I_lt, I_le, I_eq, if_pos, if_neg, if_true, if_false, decide_eq_true_eq, J_lit, J_neg, J_add, J_sub, J_mul, J_lt, J_le, J_eq, I_toJ, in_of, Bool.false_eq_true, Int.zero_add, Int.add_zero]
      · rw [decide_eq_false k1, Bool.false_and]
        simp (disch := omega) only [f9_gain_22, M.f0, M.r1, M.cell0 R, M.cell R, k1, ih2, Option.bind_some, I_lit, I_neg, I_add, I_sub, I_mul, I_lt, I_le, I_eq, if_pos, if_neg, if_true, if_false, decide_eq_true_eq, J_lit, J_neg, J_add, J_sub, J_mul, J_lt, J_le, J_eq, I_toJ, in_of, Bool.false_eq_true, Int.zero_add, Int.add_zero]
    · rw [cn_end _ c]
      simp (disch := omega) only [f9_gain_22, M.f0, M.r1, Option.bind_some, I_lit, I_neg, I_add, I_sub, I_mul, I_lt, I_le, I_eq, if_pos, if_neg, if_true, if_false, decide_eq_true_eq, J_lit, J_neg, J_add, J_sub, J_mul, J_lt, J_le, J_eq, I_toJ, in_of, Int.add_zero]
  done
theorem MO.gain (M : MO h m v se g gl) (R : RI (g 1)) {e wk : Int} (p0 : -2147483648 ≤ e) (p1 : e < 2147483648) (k0 : -2147483648 ≤ wk) (k1 : wk < 2147483648) : f9_gain h m (I e) (I wk) = some (I (if (0 ≤ e ∧ e < g 1 8) ∧ 0 ≤ wk ∧ wk ≤ 519 then ga (g 1) e wk else -1)) := by
  have b := R.1
  have fu := FU_big
  simp (disch := omega) only [f9_gain, M.o, M.isPerson R, isWeek_of, Option.bind_some, I_lit, I_neg, I_add, I_sub, I_mul, I_lt, I_le, I_eq, if_pos, if_neg, if_true, if_false, decide_eq_true_eq]
  by_cases c : 0 ≤ e ∧ e < g 1 8
  · rw [if_pos c]
    by_cases c2 : 0 ≤ wk ∧ wk ≤ 519
    · rw [if_pos c2, if_pos ⟨c, c2⟩]
      have := M.gaL R c.1 c.2 c2.1 c2.2 FU 0 0 (by omega) (by omega) (by omega)
      rw [Int.sub_zero, Int.zero_add] at this
      exact this
    · rw [if_neg c2, if_neg (fun z => c2 z.2)]
  · rw [if_neg c, if_neg (fun z => c z.1)]
theorem MO.wtI (M : MO h m v se g gl) (R : RI (g 1)) {mk fr wk : Int} (m0 : 0 ≤ mk) (m1 : mk < 6) (q0 : 1 ≤ g 9 (8 + mk)) (q1 : g 9 (8 + mk) ≤ 99) (f0 : 0 ≤ fr) (f1 : fr ≤ wk) (f2 : wk ≤ 519) (kk : Int32 → Option Int32) : ∀ (f : Nat) (a i : Int), 0 ≤ i → i ≤ g 1 4 → g 1 4 - i < f → 0 ≤ a → a ≤ 400 * i → f9_outrun_44 kk h m (I mk) (I fr) (I wk) f (I a) (I i) = if g 9 (8 + mk) * (wk - fr + 1) < a + sm (fun p => if g 1 (1330 + 10 * p) = 0 ∧ fr ≤ g 1 (1330 + 10 * p + 8) ∧ g 1 (1330 + 10 * p + 8) ≤ wk then pq (g 1) p (fun _ _ => true) else 0) (g 1 4 - i).toNat i then some (I wk) else kk (I (wk + 1)) := by
  intro f
  have b := R.1
  have pr := pace_rng (d := wk - fr + 1) q0 q1 (by omega) (by omega)
  induction f with
  | zero => intro a i h0 h1; omega
  | succ f ih =>
    intro a i i0 i1 i2 a0 a1
    by_cases c : i < g 1 4
    · have x := pi_rng R i0 c
      have x0 := x.1
      have x8 := x.2.2.2.2.1
      have pn := pq_nn (g 1) i (fun _ _ => true)
      have po := M.pagesOf R (p := i) (w := 0) (by omega) (by omega) (by omega) (by omega)
      have e0 : pw (g 1) 0 = fun _ _ => true := by funext d l; simp [pw]
      rw [e0] at po
      have ih1 := ih (a + pq (g 1) i (fun _ _ => true)) (i + 1) (by omega) (by omega) (by omega) (by omega) (by omega)
      have ih2 := ih a (i + 1) (by omega) (by omega) (by omega) (by omega) (by omega)
      rw [sm_suc _ c]
      by_cases k1 : g 1 (1330 + 10 * i) = 0
      · by_cases k2 : fr ≤ g 1 (1330 + 10 * i + 8) ∧ g 1 (1330 + 10 * i + 8) ≤ wk
        · rw [if_pos (show g 1 (1330 + 10 * i) = 0 ∧ fr ≤ g 1 (1330 + 10 * i + 8) ∧ g 1 (1330 + 10 * i + 8) ≤ wk from ⟨k1, k2⟩), ← Int.add_assoc]
          simp (disch := omega) only [f9_outrun_44, M.f0, M.r1, M.cell0 R, M.cell R, k1, k2, po, ih1, Option.bind_some, I_lit, I_neg, I_add, I_sub, I_mul, I_lt, I_le, I_eq, if_pos, if_neg, if_true, if_false, decide_eq_true_eq, J_lit, J_neg, J_add, J_sub, J_mul, J_lt, J_le, J_eq, I_toJ, in_of, and_self]
        · rw [if_neg (show ¬ (g 1 (1330 + 10 * i) = 0 ∧ fr ≤ g 1 (1330 + 10 * i + 8) ∧ g 1 (1330 + 10 * i + 8) ≤ wk) from fun z => k2 z.2), Int.zero_add]
          simp (disch := omega) only [f9_outrun_44, M.f0, M.r1, M.cell0 R, M.cell R, k1, k2, ih2, Option.bind_some, I_lit, I_neg, I_add, I_sub, I_mul, I_lt, I_le, I_eq, if_pos, if_neg, if_true, if_false, decide_eq_true_eq, J_lit, J_neg, J_add, J_sub, J_mul, J_lt, J_le, J_eq, I_toJ, in_of, Bool.false_eq_true]
      · rw [if_neg (show ¬ (g 1 (1330 + 10 * i) = 0 ∧ fr ≤ g 1 (1330 + 10 * i + 8) ∧ g 1 (1330 + 10 * i + 8) ≤ wk) from fun z => k1 z.1), Int.zero_add]
        simp (disch := omega) only [f9_outrun_44, M.f0, M.r1, M.cell0 R, M.cell R, k1, ih2, Option.bind_some, I_lit, I_neg, I_add, I_sub, I_mul, I_lt, I_le, I_eq, if_pos, if_neg, if_true, if_false, decide_eq_true_eq, J_lit, J_neg, J_add, J_sub, J_mul, J_lt, J_le, J_eq, I_toJ, in_of, Bool.false_eq_true]
    · rw [sm_end _ c, Int.add_zero]
      simp (disch := omega) only [f9_outrun_44, M.f0, M.r1, M.f9, M.r9, Option.bind_some, I_lit, I_neg, I_add, I_sub, I_mul, I_lt, I_le, I_eq, if_pos, if_neg, if_true, if_false, decide_eq_true_eq, J_lit, J_neg, J_add, J_sub, J_mul, J_lt, J_le, J_eq, I_toJ, in_of]
      by_cases k : g 9 (8 + mk) * (wk - fr + 1) < a
      · rw [if_neg (by omega), if_pos k]
      · rw [if_pos (by omega), if_neg k]
  done
theorem MO.wtL (M : MO h m v se g gl) (R : RI (g 1)) {mk fr : Int} (m0 : 0 ≤ mk) (m1 : mk < 6) (q0 : 1 ≤ g 9 (8 + mk)) (q1 : g 9 (8 + mk) ≤ 99) (f0 : 0 ≤ fr) : ∀ (f : Nat) (wk : Int), fr ≤ wk → wk ≤ g 1 0 + 1 → g 1 0 + 1 - wk < f → f9_outrun_28 h m (I mk) (I fr) f (I wk) = some (I (wt (g 1) (g 9 (8 + mk)) fr (g 1 0 + 1 - wk).toNat wk)) := by
  intro f
  have b := R.1
  have fu := FU_big
  induction f with
  | zero => intro wk h0 h1; omega
  | succ f ih =>
    intro wk w0 w1 w2
    by_cases c : wk < g 1 0 + 1
    · have ih' := ih (wk + 1) (by omega) (by omega) (by omega)
      have := M.wtI R m0 m1 q0 q1 f0 w0 (by omega) (fun v3 => f9_outrun_28 h m (I mk) (I fr) f v3) FU 0 0 (by omega) (by omega) (by omega) (by omega) (by omega)
      rw [Int.sub_zero, Int.zero_add] at this
      simp (disch := omega) only [f9_outrun_28, M.f0, M.r1, Option.bind_some, I_lit, I_neg, I_add, I_sub, I_mul, I_lt, I_le, I_eq, if_pos, if_neg, if_true, if_false, decide_eq_true_eq, J_lit, J_neg, J_add, J_sub, J_mul, J_lt, J_le, J_eq, I_toJ, in_of, this, ih']
      have e : sm (fun p => if g 1 (1330 + 10 * p) = 0 ∧ fr ≤ g 1 (1330 + 10 * p + 8) ∧ g 1 (1330 + 10 * p + 8) ≤ wk then pq (g 1) p (fun _ _ => true) else 0) (g 1 4).toNat 0 = wtw (g 1) fr wk := rfl
      rw [e]
      unfold wt
      rw [fst_suc _ _ c]
      by_cases k : g 9 (8 + mk) * (wk - fr + 1) < wtw (g 1) fr wk
      · rw [if_pos k, if_pos (decide_eq_true k), if_neg (by omega)]
      · rw [if_neg k, if_neg (show ¬ decide (g 9 (8 + mk) * (wk - fr + 1) < wtw (g 1) fr wk) = true by simpa using k)]
    · simp (disch := omega) only [f9_outrun_28, M.f0, M.r1, Option.bind_some, I_lit, I_neg, I_add, I_sub, I_mul, I_lt, I_le, I_eq, if_pos, if_neg, if_true, if_false, decide_eq_true_eq, J_lit, J_neg, J_add, J_sub, J_mul, J_lt, J_le, J_eq, I_toJ, in_of, wt, fst_end _ _ c]
  done
theorem MO.outrun (M : MO h m v se g gl) (R : RI (g 1)) {mk fr : Int} (m0 : -2147483648 ≤ mk) (m1 : mk < 2147483648) (n0 : 0 ≤ v 15) (n1 : v 15 ≤ 6) (q : ∀ k, 0 ≤ k → k < v 15 → 1 ≤ g 9 (8 + k) ∧ g 9 (8 + k) ≤ 99) (f0 : -2147483648 ≤ fr) (f1 : fr < 2147483648) : f9_outrun h m (I mk) (I fr) = some (I (if (0 ≤ mk ∧ mk < v 15) ∧ 0 ≤ fr ∧ fr ≤ g 1 0 then wt (g 1) (g 9 (8 + mk)) fr (g 1 0 + 1 - fr).toNat fr else -1)) := by
  have b := R.1
  have fu := FU_big
  simp (disch := omega) only [f9_outrun, M.o, M.isMaker, M.f0, M.r1, Option.bind_some, I_lit, I_neg, I_add, I_sub, I_mul, I_lt, I_le, I_eq, if_pos, if_neg, if_true, if_false, decide_eq_true_eq, J_lit, J_neg, J_add, J_sub, J_mul, J_lt, J_le, J_eq, I_toJ, in_of]
  by_cases c : 0 ≤ mk ∧ mk < v 15
  · rw [if_pos c]
    by_cases c2 : 0 ≤ fr ∧ fr ≤ g 1 0
    · rw [if_pos c2, if_pos ⟨c, c2⟩]
      have q' := q mk c.1 c.2
      exact M.wtL R c.1 (by omega) q'.1 q'.2 c2.1 FU fr (by omega) (by omega) (by omega)
    · rw [if_neg c2, if_neg (fun z => c2 z.2)]
  · rw [if_neg c, if_neg (fun z => c z.1)]
end
