/-! THE REFERENCE READS: each of its questions gives what r = g 1 says -/
def pw (r : Int → Int) (w d l : Int) : Bool := if w = 0 then true else if w = 1 then wr r d l else if w = 2 then sa r d l else nw r d
def hd (r : Int → Int) (p d : Int) : Bool := decide (0 < pq r p fun x _ => decide (x = d))
section
variable {h h' : AH} {m : Nat} {v : Nat → Int} {se : Int64} {g : Nat → Int → Int} {gl : Nat → Int → Int64}
theorem MO.truthL (M : MO h m v se g gl) (R : RI (g 1)) {d : Int} (d0 : -2147483648 ≤ d) (d1 : d < 2147483648) : ∀ (f : Nat) (i : Int), 0 ≤ i → i ≤ g 1 2 → g 1 2 - i < f → f9_truthOf_2 h m (I d) f (I i) = some (I (fst (fun k => decide (g 1 (30 + 2 * k) = d)) (fun k => g 1 (30 + 2 * k + 1)) (g 1 2 - i).toNat i)) := by
  intro f
  have b := R.1
  induction f with
  | zero => intro i h0 h1; omega
  | succ f ih =>
    intro i i0 i1 i2
    by_cases c : i < g 1 2
    · have x := R.2.2.1 i i0 c
      have ih' := ih (i + 1) (by omega) (by omega) (by omega)
      rw [fst_suc _ _ c]
      simp (disch := omega) only [f9_truthOf_2, M.f0, M.r1, ih', Option.bind_some, I_lit, I_neg, I_add, I_sub, I_mul, I_lt, I_le, I_eq, if_pos, if_neg, if_true, if_false, decide_eq_true_eq]
      by_cases k : g 1 (30 + 2 * i) = d
      · rw [if_pos k, if_pos k]
      · rw [if_neg k, if_neg k]
    · rw [fst_end _ _ c]
      simp (disch := omega) only [f9_truthOf_2, M.f0, M.r1, Option.bind_some, I_lit, I_neg, I_add, I_sub, I_mul, I_lt, I_le, I_eq, if_pos, if_neg, if_true, if_false, decide_eq_true_eq]
  done
theorem MO.truthOf (M : MO h m v se g gl) (R : RI (g 1)) {d : Int} (d0 : -2147483648 ≤ d) (d1 : d < 2147483648) : f9_truthOf h m (I d) = some (I (Tl (g 1) d)) := by
  have b := R.1
  have fu := FU_big
  have := M.truthL R d0 d1 FU 0 (by omega) (by omega) (by omega)
  rw [Int.sub_zero] at this
  simp (disch := omega) only [f9_truthOf, M.o, Option.bind_some, I_lit, I_neg, I_add, I_sub, I_mul, I_lt, I_le, I_eq, if_pos, if_neg, if_true, if_false, decide_eq_true_eq]
  exact this
theorem MO.factL (M : MO h m v se g gl) (R : RI (g 1)) {s d : Int} (s0 : -2147483648 ≤ s) (s1 : s < 2147483648) (d0 : -2147483648 ≤ d) (d1 : d < 2147483648) : ∀ (f : Nat) (i : Int), 0 ≤ i → i ≤ g 1 3 → g 1 3 - i < f → f9_factOf_2 h m (I s) (I d) f (I i) = some (I (fst (fun k => decide (g 1 (430 + 3 * k) = s ∧ g 1 (430 + 3 * k + 1) = d)) (fun k => g 1 (430 + 3 * k + 2)) (g 1 3 - i).toNat i)) := by
  intro f
  have b := R.1
  induction f with
  | zero => intro i h0 h1; omega
  | succ f ih =>
    intro i i0 i1 i2
    by_cases c : i < g 1 3
    · have x := R.2.2.2.1 i i0 c
      have ih' := ih (i + 1) (by omega) (by omega) (by omega)
      rw [fst_suc _ _ c]
      simp (disch := omega) only [f9_factOf_2, M.f0, M.r1, ih', Option.bind_some, I_lit, I_neg, I_add, I_sub, I_mul, I_lt, I_le, I_eq, if_pos, if_neg, if_true, if_false, decide_eq_true_eq]
      by_cases k1 : g 1 (430 + 3 * i) = s
      · by_cases k2 : g 1 (430 + 3 * i + 1) = d
        · rw [if_pos k1, if_pos k2, if_pos ⟨k1, k2⟩]
        · rw [if_pos k1, if_neg k2, if_neg (fun z => k2 z.2)]
      · rw [if_neg k1, if_neg (fun z => k1 z.1)]
    · rw [fst_end _ _ c]
      simp (disch := omega) only [f9_factOf_2, M.f0, M.r1, Option.bind_some, I_lit, I_neg, I_add, I_sub, I_mul, I_lt, I_le, I_eq, if_pos, if_neg, if_true, if_false, decide_eq_true_eq]
  done
theorem MO.factOf (M : MO h m v se g gl) (R : RI (g 1)) {s d : Int} (s0 : -2147483648 ≤ s) (s1 : s < 2147483648) (d0 : -2147483648 ≤ d) (d1 : d < 2147483648) : f9_factOf h m (I s) (I d) = some (I (Fl (g 1) s d)) := by
  have b := R.1
  have fu := FU_big
  have := M.factL R s0 s1 d0 d1 FU 0 (by omega) (by omega) (by omega)
  rw [Int.sub_zero] at this
  simp (disch := omega) only [f9_factOf, M.o, Option.bind_some, I_lit, I_neg, I_add, I_sub, I_mul, I_lt, I_le, I_eq, if_pos, if_neg, if_true, if_false, decide_eq_true_eq]
  exact this
theorem MO.dayL (M : MO h m v se g gl) (R : RI (g 1)) {p d : Int} (p0 : -2147483648 ≤ p) (p1 : p < 2147483648) (d0 : -2147483648 ≤ d) (d1 : d < 2147483648) : ∀ (f : Nat) (i : Int), 0 ≤ i → i ≤ g 1 5 → g 1 5 - i < f → f9_hasDay_2 h m (I p) (I d) f (I i) = some (decide (0 < cn (fun k => decide (g 1 (2230 + 3 * k) = p) && decide (g 1 (2230 + 3 * k + 1) = d)) (g 1 5 - i).toNat i)) := by
  intro f
  have b := R.1
  induction f with
  | zero => intro i h0 h1; omega
  | succ f ih =>
    intro i i0 i1 i2
    by_cases c : i < g 1 5
    · have x := R.2.2.2.2.2.2.1 i i0 c
      have ih' := ih (i + 1) (by omega) (by omega) (by omega)
      have nn := cn_nn (fun k => decide (g 1 (2230 + 3 * k) = p) && decide (g 1 (2230 + 3 * k + 1) = d)) (g 1 5 - (i + 1)).toNat (i + 1)
      rw [cn_suc _ c]
      simp (disch := omega) only [f9_hasDay_2, M.f0, M.r1, ih', Option.bind_some, I_lit, I_neg, I_add, I_sub, I_mul, I_lt, I_le, I_eq, if_pos, if_neg, if_true, if_false, decide_eq_true_eq]
      by_cases k1 : g 1 (2230 + 3 * i) = p
      · by_cases k2 : g 1 (2230 + 3 * i + 1) = d
        · rw [if_pos k1, if_pos k2, if_pos (by simp [k1, k2]), decide_eq_true (by omega)]
        · rw [if_pos k1, if_neg k2, if_neg (by simp [k2]), Int.zero_add]
      · rw [if_neg k1, if_neg (by simp [k1]), Int.zero_add]
    · rw [cn_end _ c]
      simp (disch := omega) only [f9_hasDay_2, M.f0, M.r1, Option.bind_some, I_lit, I_neg, I_add, I_sub, I_mul, I_lt, I_le, I_eq, if_pos, if_neg, if_true, if_false, decide_eq_true_eq]
      rfl
  done
theorem MO.hasDay (M : MO h m v se g gl) (R : RI (g 1)) {p d : Int} (p0 : -2147483648 ≤ p) (p1 : p < 2147483648) (d0 : -2147483648 ≤ d) (d1 : d < 2147483648) : f9_hasDay h m (I p) (I d) = some (hd (g 1) p d) := by
  have b := R.1
  have fu := FU_big
  have := M.dayL R p0 p1 d0 d1 FU 0 (by omega) (by omega) (by omega)
  rw [Int.sub_zero] at this
  simp (disch := omega) only [f9_hasDay, M.o, Option.bind_some, I_lit, I_neg, I_add, I_sub, I_mul, I_lt, I_le, I_eq, if_pos, if_neg, if_true, if_false, decide_eq_true_eq]
  exact this
theorem MO.isWrong (M : MO h m v se g gl) (R : RI (g 1)) {k : Int} (k0 : 0 ≤ k) (k1 : k < g 1 5) : f9_isWrong h m (I k) = some (wr (g 1) (g 1 (2230 + 3 * k + 1)) (g 1 (2230 + 3 * k + 2))) := by
  have b := R.1
  have x := R.2.2.2.2.2.2.1 k k0 k1
  have t := Tl_rng R (g 1 (2230 + 3 * k + 1))
  simp (disch := omega) only [f9_isWrong, M.o, M.f0, M.r1, M.truthOf R, wr, Option.bind_some, I_lit, I_neg, I_add, I_sub, I_mul, I_lt, I_le, I_eq, if_pos, if_neg, if_true, if_false, decide_eq_true_eq, ite_ft]
  by_cases c : Tl (g 1) (g 1 (2230 + 3 * k + 1)) = -1
  · rw [if_pos c]; simp [c]
  · rw [if_neg c]; simp [c]
theorem MO.isShared (M : MO h m v se g gl) (R : RI (g 1)) {k s : Int} (k0 : 0 ≤ k) (k1 : k < g 1 5) (s0 : 0 ≤ s) (s1 : s < 2147483648) : f9_isShared h m (I k) (I s) = some (sh (g 1) (g 1 (2230 + 3 * k + 1)) (g 1 (2230 + 3 * k + 2)) s) := by
  have b := R.1
  have x := R.2.2.2.2.2.2.1 k k0 k1
  have t := Fl_rng R s (g 1 (2230 + 3 * k + 1))
  simp (disch := omega) only [f9_isShared, M.o, M.f0, M.r1, M.isWrong R, M.factOf R, sh, Option.bind_some, I_lit, I_neg, I_add, I_sub, I_mul, I_lt, I_le, I_eq, if_pos, if_neg, if_true, if_false, decide_eq_true_eq, ite_tf]
  cases wr (g 1) (g 1 (2230 + 3 * k + 1)) (g 1 (2230 + 3 * k + 2)) <;> simp
theorem MO.anyL (M : MO h m v se g gl) (R : RI (g 1)) {k : Int} (k0 : 0 ≤ k) (k1 : k < g 1 5) : ∀ (f : Nat) (i : Int), 0 ≤ i → i ≤ 6 → 6 - i < f → f9_isSharedAny_2 h m (I k) f (I i) = some (decide (cn (sh (g 1) (g 1 (2230 + 3 * k + 1)) (g 1 (2230 + 3 * k + 2))) (6 - i).toNat i ≠ 0)) := by
  intro f
  have b := R.1
  induction f with
  | zero => intro i h0 h1; omega
  | succ f ih =>
    intro i i0 i1 i2
    by_cases c : i < 6
    · have ih' := ih (i + 1) (by omega) (by omega) (by omega)
      have nn := cn_nn (sh (g 1) (g 1 (2230 + 3 * k + 1)) (g 1 (2230 + 3 * k + 2))) (6 - (i + 1)).toNat (i + 1)
      rw [cn_suc _ c]
      simp (disch := omega) only [f9_isSharedAny_2, M.isShared R, ih', Option.bind_some, I_lit, I_neg, I_add, I_sub, I_mul, I_lt, I_le, I_eq, if_pos, if_neg, if_true, if_false, decide_eq_true_eq]
      by_cases q : sh (g 1) (g 1 (2230 + 3 * k + 1)) (g 1 (2230 + 3 * k + 2)) i = true
      · rw [if_pos q, if_pos q, decide_eq_true (by omega)]
      · rw [if_neg q, if_neg q, Int.zero_add]
    · rw [cn_end _ c]
      simp (disch := omega) only [f9_isSharedAny_2, Option.bind_some, I_lit, I_neg, I_add, I_sub, I_mul, I_lt, I_le, I_eq, if_pos, if_neg, if_true, if_false, decide_eq_true_eq]
      rfl
  done
theorem MO.isSharedAny (M : MO h m v se g gl) (R : RI (g 1)) {k : Int} (k0 : 0 ≤ k) (k1 : k < g 1 5) : f9_isSharedAny h m (I k) = some (sa (g 1) (g 1 (2230 + 3 * k + 1)) (g 1 (2230 + 3 * k + 2))) := by
  have fu := FU_big
  have := M.anyL R k0 k1 FU 0 (by omega) (by omega) (by omega)
  rw [show (6 - 0 : Int).toNat = 6 from rfl] at this
  simp (disch := omega) only [f9_isSharedAny, M.o, Option.bind_some, I_lit, I_neg, I_add, I_sub, I_mul, I_lt, I_le, I_eq, if_pos, if_neg, if_true, if_false, decide_eq_true_eq, this, sa]
  congr 1
  rw [decide_eq_decide]
  exact not_congr (bs_any _ 6).symm
theorem MO.nwL (M : MO h m v se g gl) (R : RI (g 1)) {d : Int} (d0 : -2147483648 ≤ d) (d1 : d < 2147483648) : ∀ (f : Nat) (i : Int), 0 ≤ i → i ≤ 6 → 6 - i < f → f9_isNowhere_28 h m (I d) f (I i) = some (decide (cn (fun s => decide (Fl (g 1) s d ≠ -1)) (6 - i).toNat i = 0)) := by
  intro f
  have b := R.1
  induction f with
  | zero => intro i h0 h1; omega
  | succ f ih =>
    intro i i0 i1 i2
    by_cases c : i < 6
    · have ih' := ih (i + 1) (by omega) (by omega) (by omega)
      have t := Fl_rng R i d
      have nn := cn_nn (fun s => decide (Fl (g 1) s d ≠ -1)) (6 - (i + 1)).toNat (i + 1)
      rw [cn_suc _ c]
      simp (disch := omega) only [f9_isNowhere_28, M.factOf R, ih', Option.bind_some, I_lit, I_neg, I_add, I_sub, I_mul, I_lt, I_le, I_eq, if_pos, if_neg, if_true, if_false, decide_eq_true_eq]
      by_cases q : Fl (g 1) i d = -1
      · rw [if_pos q, if_neg (fun z => z q), Int.zero_add]
      · rw [if_neg q, if_pos q, decide_eq_false (by omega)]
    · rw [cn_end _ c]
      simp (disch := omega) only [f9_isNowhere_28, Option.bind_some, I_lit, I_neg, I_add, I_sub, I_mul, I_lt, I_le, I_eq, if_pos, if_neg, if_true, if_false, decide_eq_true_eq]
      rfl
  done
theorem MO.isNowhere (M : MO h m v se g gl) (R : RI (g 1)) {k : Int} (k0 : 0 ≤ k) (k1 : k < g 1 5) : f9_isNowhere h m (I k) = some (nw (g 1) (g 1 (2230 + 3 * k + 1))) := by
  have b := R.1
  have fu := FU_big
  have x := R.2.2.2.2.2.2.1 k k0 k1
  have t := Tl_rng R (g 1 (2230 + 3 * k + 1))
  have := M.nwL R (d := g 1 (2230 + 3 * k + 1)) (by omega) (by omega) FU 0 (by omega) (by omega) (by omega)
  rw [show (6 - 0 : Int).toNat = 6 from rfl] at this
  simp (disch := omega) only [f9_isNowhere, M.o, M.f0, M.r1, M.truthOf R, this, nw, Option.bind_some, I_lit, I_neg, I_add, I_sub, I_mul, I_lt, I_le, I_eq, if_pos, if_neg, if_true, if_false, decide_eq_true_eq]
  by_cases c : Tl (g 1) (g 1 (2230 + 3 * k + 1)) = -1
  · rw [if_pos c, decide_eq_true c, Bool.true_and]
  · rw [if_neg c, decide_eq_false c, Bool.false_and]
theorem MO.pagesL (M : MO h m v se g gl) (R : RI (g 1)) {p w : Int} (p0 : -2147483648 ≤ p) (p1 : p < 2147483648) (w0 : 0 ≤ w) (w1 : w ≤ 3) : ∀ (f : Nat) (a i : Int), 0 ≤ i → i ≤ g 1 5 → g 1 5 - i < f → f9_pagesOf_5 h m (I p) (I w) f (I a) (I i) = some (I (a + cn (fun k => decide (g 1 (2230 + 3 * k) = p) && pw (g 1) w (g 1 (2230 + 3 * k + 1)) (g 1 (2230 + 3 * k + 2))) (g 1 5 - i).toNat i)) := by
  intro f
  have b := R.1
  induction f with
  | zero => intro a i h0 h1; omega
  | succ f ih =>
    intro a i i0 i1 i2
    by_cases c : i < g 1 5
    · have x := R.2.2.2.2.2.2.1 i i0 c
      have ih1 := ih (a + 1) (i + 1) (by omega) (by omega) (by omega)
      have ih2 := ih a (i + 1) (by omega) (by omega) (by omega)
      rw [cn_suc _ c]
      by_cases k1 : g 1 (2230 + 3 * i) = p
      · rw [k1, decide_eq_true rfl, Bool.true_and, ← Int.add_assoc]
        have ww : w = 0 ∨ w = 1 ∨ w = 2 ∨ w = 3 := by omega
        rcases ww with e | e | e | e <;> subst e
        · simp (disch := omega) only [f9_pagesOf_5, f9_pagesOf_87, M.f0, M.r1, k1, ih1, pw, Option.bind_some, I_lit, I_neg, I_add, I_sub, I_mul, I_lt, I_le, I_eq, if_pos, if_neg, if_true, if_false, decide_eq_true_eq]
        · cases q : wr (g 1) (g 1 (2230 + 3 * i + 1)) (g 1 (2230 + 3 * i + 2)) <;>
            simp (disch := omega) only [f9_pagesOf_5, f9_pagesOf_54, f9_pagesOf_87, M.f0, M.r1, M.isWrong R, q, k1, ih1, ih2, pw, Option.bind_some, I_lit, I_neg, I_add, I_sub, I_mul, I_lt, I_le, I_eq, if_pos, if_neg, if_true, if_false, decide_eq_true_eq, Bool.false_eq_true, Int.add_zero]
        · cases q : sa (g 1) (g 1 (2230 + 3 * i + 1)) (g 1 (2230 + 3 * i + 2)) <;>
            simp (disch := omega) only [f9_pagesOf_5, f9_pagesOf_54, f9_pagesOf_87, M.f0, M.r1, M.isSharedAny R, q, k1, ih1, ih2, pw, Option.bind_some, I_lit, I_neg, I_add, I_sub, I_mul, I_lt, I_le, I_eq, if_pos, if_neg, if_true, if_false, decide_eq_true_eq, Bool.false_eq_true, Int.add_zero]
        · cases q : nw (g 1) (g 1 (2230 + 3 * i + 1)) <;>
            simp (disch := omega) only [f9_pagesOf_5, f9_pagesOf_54, f9_pagesOf_87, M.f0, M.r1, M.isNowhere R, q, k1, ih1, ih2, pw, Option.bind_some, I_lit, I_neg, I_add, I_sub, I_mul, I_lt, I_le, I_eq, if_pos, if_neg, if_true, if_false, decide_eq_true_eq, Bool.false_eq_true, Int.add_zero]
      · rw [decide_eq_false k1, Bool.false_and]
        simp (disch := omega) only [f9_pagesOf_5, M.f0, M.r1, ih2, Option.bind_some, I_lit, I_neg, I_add, I_sub, I_mul, I_lt, I_le, I_eq, if_pos, if_neg, if_true, if_false, decide_eq_true_eq, Bool.false_eq_true, Int.zero_add]
    · rw [cn_end _ c]
      simp (disch := omega) only [f9_pagesOf_5, M.f0, M.r1, Option.bind_some, I_lit, I_neg, I_add, I_sub, I_mul, I_lt, I_le, I_eq, if_pos, if_neg, if_true, if_false, decide_eq_true_eq, Int.add_zero]
  done
theorem MO.pagesOf (M : MO h m v se g gl) (R : RI (g 1)) {p w : Int} (p0 : -2147483648 ≤ p) (p1 : p < 2147483648) (w0 : 0 ≤ w) (w1 : w ≤ 3) : f9_pagesOf h m (I p) (I w) = some (I (pq (g 1) p (pw (g 1) w))) := by
  have b := R.1
  have fu := FU_big
  have := M.pagesL R p0 p1 w0 w1 FU 0 0 (by omega) (by omega) (by omega)
  rw [Int.sub_zero, Int.zero_add] at this
  simp (disch := omega) only [f9_pagesOf, M.o, Option.bind_some, I_lit, I_neg, I_add, I_sub, I_mul, I_lt, I_le, I_eq, if_pos, if_neg, if_true, if_false, decide_eq_true_eq]
  exact this
theorem MO.ageL (M : MO h m v se g gl) (R : RI (g 1)) {p : Int} (p0 : -2147483648 ≤ p) (p1 : p < 2147483648) : ∀ (f : Nat) (a i : Int), 0 ≤ i → i ≤ g 1 5 → g 1 5 - i < f → 0 ≤ a → a ≤ 9999 → f9_age_4 h m (I p) f (I a) (I i) = some (I (1900 + fo (fun k m => if g 1 (2230 + 3 * k) = p ∧ m < g 1 (2230 + 3 * k + 1) then g 1 (2230 + 3 * k + 1) else m) (g 1 5 - i).toNat i a / 365)) := by
  intro f
  have b := R.1
  induction f with
  | zero => intro a i h0 h1; omega
  | succ f ih =>
    intro a i i0 i1 i2 a0 a1
    by_cases c : i < g 1 5
    · have x := R.2.2.2.2.2.2.1 i i0 c
      have ih1 := ih a (i + 1) (by omega) (by omega) (by omega) (by omega) (by omega)
      have ih2 := ih (g 1 (2230 + 3 * i + 1)) (i + 1) (by omega) (by omega) (by omega) (by omega) (by omega)
      rw [fo_suc _ c]
      simp (disch := omega) only [f9_age_4, M.f0, M.r1, ih1, ih2, Option.bind_some, I_lit, I_neg, I_add, I_sub, I_mul, I_lt, I_le, I_eq, if_pos, if_neg, if_true, if_false, decide_eq_true_eq]
      by_cases k1 : g 1 (2230 + 3 * i) = p
      · by_cases k2 : a < g 1 (2230 + 3 * i + 1)
        · rw [if_pos k1, if_neg (by omega), if_pos ⟨k1, k2⟩]
        · rw [if_pos k1, if_pos (by omega), if_neg (fun z => k2 z.2)]
      · rw [if_neg k1, if_neg (fun z => k1 z.1)]
    · rw [fo_end _ c]
      simp (disch := omega) only [f9_age_4, M.f0, M.r1, Option.bind_some, I_lit, I_neg, I_add, I_sub, I_mul, I_lt, I_le, I_eq, if_pos, if_neg, if_true, if_false, decide_eq_true_eq, I_div]
  done
theorem MO.age (M : MO h m v se g gl) (R : RI (g 1)) {p : Int} (p0 : -2147483648 ≤ p) (p1 : p < 2147483648) : f9_age h m (I p) = some (I (ag (g 1) p)) := by
  have b := R.1
  have fu := FU_big
  have := M.ageL R p0 p1 FU 0 0 (by omega) (by omega) (by omega) (by omega) (by omega)
  rw [Int.sub_zero] at this
  simp (disch := omega) only [f9_age, M.o, Option.bind_some, I_lit, I_neg, I_add, I_sub, I_mul, I_lt, I_le, I_eq, if_pos, if_neg, if_true, if_false, decide_eq_true_eq]
  exact this
theorem MO.cell (M : MO h m v se g gl) (R : RI (g 1)) {p k : Int} (p0 : 0 ≤ p) (p1 : p < g 1 4) (k0 : 0 ≤ k) (k1 : k < 10) : f9_pieceCell h m (I p) (I k) = some (I (g 1 (1330 + 10 * p + k))) := by
  have b := R.1
  simp (disch := omega) only [f9_pieceCell, M.o, M.f0, M.r1, Option.bind_some, I_lit, I_neg, I_add, I_sub, I_mul, I_lt, I_le, I_eq, if_pos, if_neg, if_true, if_false, decide_eq_true_eq]
theorem MO.cell0 (M : MO h m v se g gl) (R : RI (g 1)) {p : Int} (p0 : 0 ≤ p) (p1 : p < g 1 4) : f9_pieceCell h m (I p) (I 0) = some (I (g 1 (1330 + 10 * p))) := by
  rw [M.cell R p0 p1 (by omega) (by omega), Int.add_zero]
theorem MO.youngL (M : MO h m v se g gl) (R : RI (g 1)) {p : Int} (p0 : 0 ≤ p) (p1 : p < g 1 4) : ∀ (f : Nat) (i : Int), 0 ≤ i → i ≤ g 1 1 → g 1 1 - i < f → f9_young_4 h m (I p) f (I (bs (yq (g 1) p) i.toNat)) (I i) = some (I (yo (g 1) p)) := by
  intro f
  have b := R.1
  have s := st_rng R p0 p1
  have a := ag_rng R p
  induction f with
  | zero => intro i h0 h1; omega
  | succ f ih =>
    intro i i0 i1 i2
    by_cases c : i < g 1 1
    · have st := R.2.1 i i0 c
      have bt := bi_rng (g 1 (1330 + 10 * p + 6)) i
      have ih' := ih (i + 1) (by omega) (by omega) (by omega)
      simp (disch := omega) only [f9_young_4, M.f0, M.r1, M.cell R, M.age R, I_bit, Option.bind_some, I_lit, I_neg, I_add, I_sub, I_mul, I_lt, I_le, I_eq, if_pos, if_neg, if_true, if_false, decide_eq_true_eq]
      by_cases k : yq (g 1) p i = true
      · rw [← bs_or i0 (by omega) k] at ih'
        simp only [yq, Bool.and_eq_true, decide_eq_true_eq] at k
        rw [if_pos k.1, if_neg (by omega), ← ih']
      · rw [Bool.not_eq_true] at k
        rw [bs_skip i0 k] at ih'
        simp only [yq, Bool.and_eq_false_iff, decide_eq_false_iff_not] at k
        by_cases k1 : bi (g 1 (1330 + 10 * p + 6)) i = 1
        · rw [if_pos k1, if_pos (by omega), ih']
        · rw [if_neg k1, ih']
    · have : i = g 1 1 := by omega
      subst this
      simp (disch := omega) only [f9_young_4, M.f0, M.r1, Option.bind_some, I_lit, I_neg, I_add, I_sub, I_mul, I_lt, I_le, I_eq, if_pos, if_neg, if_true, if_false, decide_eq_true_eq]
      rfl
  done
theorem MO.young (M : MO h m v se g gl) (R : RI (g 1)) {p : Int} (p0 : 0 ≤ p) (p1 : p < g 1 4) : f9_young h m (I p) = some (I (yo (g 1) p)) := by
  have b := R.1
  have fu := FU_big
  have := M.youngL R p0 p1 FU 0 (by omega) (by omega) (by omega)
  simp (disch := omega) only [f9_young, M.o, Option.bind_some, I_lit, I_neg, I_add, I_sub, I_mul, I_lt, I_le, I_eq, if_pos, if_neg, if_true, if_false, decide_eq_true_eq]
  exact this
theorem MO.lateL (M : MO h m v se g gl) (R : RI (g 1)) {p : Int} (p0 : 0 ≤ p) (p1 : p < g 1 4) : ∀ (f : Nat) (a i : Int), 0 ≤ i → i ≤ g 1 1 → g 1 1 - i < f → 0 ≤ a → a ≤ 1999 → f9_late_4 h m (I p) f (I a) (I i) = some (I (fo (fun i m => if bi (g 1 (1330 + 10 * p + 6)) i = 1 ∧ m < g 1 (10 + 2 * i) - ag (g 1) p then g 1 (10 + 2 * i) - ag (g 1) p else m) (g 1 1 - i).toNat i a)) := by
  intro f
  have b := R.1
  have s := st_rng R p0 p1
  have ar := ag_rng R p
  induction f with
  | zero => intro a i h0 h1; omega
  | succ f ih =>
    intro a i i0 i1 i2 a0 a1
    by_cases c : i < g 1 1
    · have st := R.2.1 i i0 c
      have bt := bi_rng (g 1 (1330 + 10 * p + 6)) i
      have ih1 := ih a (i + 1) (by omega) (by omega) (by omega) (by omega) (by omega)
      rw [fo_suc _ c]
      simp (disch := omega) only [f9_late_4, M.f0, M.r1, M.cell R, M.age R, I_bit, ih1, Option.bind_some, I_lit, I_neg, I_add, I_sub, I_mul, I_lt, I_le, I_eq, if_pos, if_neg, if_true, if_false, decide_eq_true_eq]
      by_cases k1 : bi (g 1 (1330 + 10 * p + 6)) i = 1
      · by_cases k2 : a < g 1 (10 + 2 * i) - ag (g 1) p
        · rw [if_pos k1, if_neg (by omega), if_pos ⟨k1, k2⟩, ih _ (i + 1) (by omega) (by omega) (by omega) (by omega) (by omega)]
        · rw [if_pos k1, if_pos (by omega), if_neg (fun z => k2 z.2)]
      · rw [if_neg k1, if_neg (fun z => k1 z.1)]
    · rw [fo_end _ c]
      simp (disch := omega) only [f9_late_4, M.f0, M.r1, Option.bind_some, I_lit, I_neg, I_add, I_sub, I_mul, I_lt, I_le, I_eq, if_pos, if_neg, if_true, if_false, decide_eq_true_eq]
  done
theorem MO.late (M : MO h m v se g gl) (R : RI (g 1)) {p : Int} (p0 : 0 ≤ p) (p1 : p < g 1 4) : f9_late h m (I p) = some (I (la (g 1) p)) := by
  have b := R.1
  have fu := FU_big
  have := M.lateL R p0 p1 FU 0 0 (by omega) (by omega) (by omega) (by omega) (by omega)
  rw [Int.sub_zero] at this
  simp (disch := omega) only [f9_late, M.o, Option.bind_some, I_lit, I_neg, I_add, I_sub, I_mul, I_lt, I_le, I_eq, if_pos, if_neg, if_true, if_false, decide_eq_true_eq]
  exact this
theorem MO.volL (M : MO h m v se g gl) (R : RI (g 1)) : ∀ (f : Nat) (a i : Int), 0 ≤ i → i ≤ g 1 4 → g 1 4 - i < f → f9_volumes_4 h m f (I a) (I i) = some (I (a + cn (fun p => decide (g 1 (1330 + 10 * p) = 0)) (g 1 4 - i).toNat i)) := by
  intro f
  have b := R.1
  induction f with
  | zero => intro a i h0 h1; omega
  | succ f ih =>
    intro a i i0 i1 i2
    by_cases c : i < g 1 4
    · have x := (R.2.2.2.2.1 i i0 c).1
      have ih1 := ih (a + 1) (i + 1) (by omega) (by omega) (by omega)
      have ih2 := ih a (i + 1) (by omega) (by omega) (by omega)
      rw [cn_suc _ c]
      by_cases k1 : g 1 (1330 + 10 * i) = 0
      · simp (disch := omega) only [f9_volumes_4, M.f0, M.r1, M.cell0 R, k1, ih1, Option.bind_some, I_lit, I_neg, I_add, I_sub, I_mul, I_lt, I_le, I_eq, if_pos, if_neg, if_true, if_false, decide_eq_true_eq, Int.add_assoc]
      · simp (disch := omega) only [f9_volumes_4, M.f0, M.r1, M.cell0 R, k1, ih2, Option.bind_some, I_lit, I_neg, I_add, I_sub, I_mul, I_lt, I_le, I_eq, if_pos, if_neg, if_true, if_false, decide_eq_true_eq, Int.add_zero, Int.zero_add]
    · rw [cn_end _ c]
      simp (disch := omega) only [f9_volumes_4, M.f0, M.r1, Option.bind_some, I_lit, I_neg, I_add, I_sub, I_mul, I_lt, I_le, I_eq, if_pos, if_neg, if_true, if_false, decide_eq_true_eq, Int.add_zero]
  done
theorem MO.volumes (M : MO h m v se g gl) (R : RI (g 1)) : f9_volumes h m = some (I (vo (g 1))) := by
  have b := R.1
  have fu := FU_big
  have := M.volL R FU 0 0 (by omega) (by omega) (by omega)
  rw [Int.sub_zero, Int.zero_add] at this
  simp (disch := omega) only [f9_volumes, M.o, Option.bind_some, I_lit, I_neg, I_add, I_sub, I_mul, I_lt, I_le, I_eq, if_pos, if_neg, if_true, if_false, decide_eq_true_eq]
  exact this
theorem MO.withL (M : MO h m v se g gl) (R : RI (g 1)) {p s : Int} (p0 : -2147483648 ≤ p) (p1 : p < 2147483648) (s0 : 0 ≤ s) (s1 : s < 2147483648) : ∀ (f : Nat) (a i : Int), 0 ≤ i → i ≤ g 1 5 → g 1 5 - i < f → f9_sharedWith_5 h m (I p) (I s) f (I a) (I i) = some (I (a + cn (fun k => decide (g 1 (2230 + 3 * k) = p) && sh (g 1) (g 1 (2230 + 3 * k + 1)) (g 1 (2230 + 3 * k + 2)) s) (g 1 5 - i).toNat i)) := by
  intro f
  have b := R.1
  induction f with
  | zero => intro a i h0 h1; omega
  | succ f ih =>
    intro a i i0 i1 i2
    by_cases c : i < g 1 5
    · have x := R.2.2.2.2.2.2.1 i i0 c
      have ih1 := ih (a + 1) (i + 1) (by omega) (by omega) (by omega)
      have ih2 := ih a (i + 1) (by omega) (by omega) (by omega)
      rw [cn_suc _ c]
      by_cases k1 : g 1 (2230 + 3 * i) = p
      · rw [k1, decide_eq_true rfl, Bool.true_and, ← Int.add_assoc]
        cases q : sh (g 1) (g 1 (2230 + 3 * i + 1)) (g 1 (2230 + 3 * i + 2)) s <;>
          simp (disch := omega) only [f9_sharedWith_5, M.f0, M.r1, M.isShared R, q, k1, ih1, ih2, Option.bind_some, I_lit, I_neg, I_add, I_sub, I_mul, I_lt, I_le, I_eq, if_pos, if_neg, if_true, if_false, decide_eq_true_eq, Bool.false_eq_true, Int.add_zero]
      · rw [decide_eq_false k1, Bool.false_and]
        simp (disch := omega) only [f9_sharedWith_5, M.f0, M.r1, ih2, Option.bind_some, I_lit, I_neg, I_add, I_sub, I_mul, I_lt, I_le, I_eq, if_pos, if_neg, if_true, if_false, decide_eq_true_eq, Bool.false_eq_true, Int.zero_add, Int.add_zero]
    · rw [cn_end _ c]
      simp (disch := omega) only [f9_sharedWith_5, M.f0, M.r1, Option.bind_some, I_lit, I_neg, I_add, I_sub, I_mul, I_lt, I_le, I_eq, if_pos, if_neg, if_true, if_false, decide_eq_true_eq, Int.add_zero]
  done
theorem MO.sharedWith (M : MO h m v se g gl) (R : RI (g 1)) {p s : Int} (p0 : -2147483648 ≤ p) (p1 : p < 2147483648) (s0 : 0 ≤ s) (s1 : s < 2147483648) : f9_sharedWith h m (I p) (I s) = some (I (sw (g 1) p s)) := by
  have b := R.1
  have fu := FU_big
  have := M.withL R p0 p1 s0 s1 FU 0 0 (by omega) (by omega) (by omega)
  rw [Int.sub_zero, Int.zero_add] at this
  simp (disch := omega) only [f9_sharedWith, M.o, Option.bind_some, I_lit, I_neg, I_add, I_sub, I_mul, I_lt, I_le, I_eq, if_pos, if_neg, if_true, if_false, decide_eq_true_eq]
  exact this
end
