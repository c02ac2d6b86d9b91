/-! sums -/
def sm (f : Int → Int) : Nat → Int → Int
  | 0, _ => 0
  | k + 1, i => f i + sm f k (i + 1)
theorem sm_cong {f g : Int → Int} : ∀ (k : Nat) (i : Int), (∀ j, i ≤ j → j < i + k → f j = g j) → sm f k i = sm g k i := by
  intro k
  induction k with
  | zero => intro i _; rfl
  | succ k ih =>
    intro i h
    simp only [sm]
    rw [h i (by omega) (by omega), ih (i + 1) fun j a b => h j (by omega) (by omega)]
theorem sm_add (f : Int → Int) : ∀ (a b : Nat) (i : Int), sm f (a + b) i = sm f a i + sm f b (i + a) := by
  intro a
  induction a with
  | zero => intro b i; simp [sm]
  | succ a ih =>
    intro b i
    rw [show a + 1 + b = (a + b) + 1 by omega]
    simp only [sm, ih]
    rw [show i + ((a + 1 : Nat) : Int) = i + 1 + a by omega]
    omega
theorem sm_last (f : Int → Int) (k : Nat) (i : Int) : sm f (k + 1) i = sm f k i + f (i + k) := by
  rw [sm_add]; simp only [sm]; omega
theorem sm_plus (f g : Int → Int) : ∀ (k : Nat) (i : Int), sm (fun j => f j + g j) k i = sm f k i + sm g k i := by
  intro k
  induction k with
  | zero => intro i; rfl
  | succ k ih => intro i; simp only [sm, ih]; omega
theorem sm_zero {f : Int → Int} : ∀ (k : Nat) (i : Int), (∀ j, i ≤ j → j < i + k → f j = 0) → sm f k i = 0 := by
  intro k
  induction k with
  | zero => intro i _; rfl
  | succ k ih =>
    intro i h
    simp only [sm]
    rw [h i (by omega) (by omega), ih (i + 1) fun j a b => h j (by omega) (by omega)]
    rfl
theorem sm_rng {f : Int → Int} {m : Int} (hm : 0 ≤ m) : ∀ (k : Nat) (i : Int), (∀ j, i ≤ j → j < i + k → -m ≤ f j ∧ f j ≤ m) → -(m * k) ≤ sm f k i ∧ sm f k i ≤ m * k := by
  intro k
  induction k with
  | zero => intro i _; simp [sm]
  | succ k ih =>
    intro i h
    have := ih (i + 1) fun j a b => h j (by omega) (by omega)
    have := h i (by omega) (by omega)
    have e : m * ((k + 1 : Nat) : Int) = m * k + m := by rw [Int.natCast_succ, Int.mul_add, Int.mul_one]
    simp only [sm]
    rw [e]
    omega
theorem sm_suc (f : Int → Int) {i e : Int} (h : i < e) : sm f (e - i).toNat i = f i + sm f (e - (i + 1)).toNat (i + 1) := by
  rw [show (e - i).toNat = (e - (i + 1)).toNat + 1 by omega, sm]
theorem sm_end (f : Int → Int) {i e : Int} (h : ¬ i < e) : sm f (e - i).toNat i = 0 := by
  rw [show (e - i).toNat = 0 by omega, sm]
/-- above the diagonal, row by row or column by column -/
theorem sm_tri (f : Int → Int → Int) : ∀ n : Nat, sm (fun m => sm (f m) (n - (m + 1)).toNat (m + 1)) n 0 = sm (fun i => sm (fun j => f j i) i.toNat 0) n 0 := by
  intro n
  induction n with
  | zero => rfl
  | succ n ih =>
    rw [sm_last, sm_last, Int.zero_add, ← ih]
    have e : sm (fun m => sm (f m) (((n + 1 : Nat) : Int) - (m + 1)).toNat (m + 1)) n 0 = sm (fun m => sm (f m) ((n : Int) - (m + 1)).toNat (m + 1) + f m n) n 0 := sm_cong _ _ fun j h0 h1 => by
      rw [show (((n + 1 : Nat) : Int) - (j + 1)).toNat = ((n : Int) - (j + 1)).toNat + 1 by omega, sm_last, show j + 1 + (((n : Int) - (j + 1)).toNat : Nat) = (n : Int) by omega]
    rw [e, sm_plus, show (((n + 1 : Nat) : Int) - ((n : Int) + 1)).toNat = 0 by omega, Int.toNat_natCast]
    simp only [sm]
    omega
/-! outrun -/
def wtg (r : Int → Int) (fr : Int) (p : Int) : Int := if r (1330 + 10 * p) = 0 ∧ fr ≤ r (1330 + 10 * p + 8) then pq r p (fun _ _ => true) else 0
def wtw (r : Int → Int) (fr wk : Int) : Int := sm (fun p => if r (1330 + 10 * p) = 0 ∧ fr ≤ r (1330 + 10 * p + 8) ∧ r (1330 + 10 * p + 8) ≤ wk then pq r p (fun _ _ => true) else 0) (r 4).toNat 0
def wt (r : Int → Int) (pace fr : Int) (n : Nat) (wk : Int) : Int := if fst (fun w => decide (pace * (w - fr + 1) < wtw r fr w)) (fun w => w) n wk = -1 then -2 else fst (fun w => decide (pace * (w - fr + 1) < wtw r fr w)) (fun w => w) n wk
theorem wtw_nx {r : Int → Int} (R : RI r) (fr wk : Int) {nx : Int} (h0 : 0 ≤ nx) (h1 : nx ≤ r 4) (lo : ∀ j, 0 ≤ j → j < nx → r (1330 + 10 * j + 8) ≤ wk) (hi : ∀ j, nx ≤ j → j < r 4 → wk < r (1330 + 10 * j + 8)) : wtw r fr wk = sm (wtg r fr) nx.toNat 0 := by
  unfold wtw
  rw [show (r 4).toNat = nx.toNat + (r 4 - nx).toNat by omega, sm_add, sm_zero (r 4 - nx).toNat, Int.add_zero]
  · refine sm_cong _ _ fun j g0 g1 => ?_
    have := lo j g0 (by omega)
    unfold wtg
    by_cases a : r (1330 + 10 * j) = 0 ∧ fr ≤ r (1330 + 10 * j + 8)
    · rw [if_pos a, if_pos ⟨a.1, a.2, this⟩]
    · rw [if_neg a, if_neg (fun z => a ⟨z.1, z.2.1⟩)]
  · intro j g0 g1
    have := hi j (by omega) (by omega)
    exact if_neg (by omega)
theorem wtg_rng {r : Int → Int} (R : RI r) (fr : Int) {nx : Int} (h0 : 0 ≤ nx) (h1 : nx ≤ r 4) : -36000 ≤ sm (wtg r fr) nx.toNat 0 ∧ sm (wtg r fr) nx.toNat 0 ≤ 36000 := by
  have b := R.1
  have := sm_rng (f := wtg r fr) (m := 400) (by omega) nx.toNat 0 fun j _ _ => by
    have := pq_nn r j fun _ _ => true
    unfold wtg
    split <;> omega
  omega
theorem pace_rng {pace d : Int} (h0 : 1 ≤ pace) (h1 : pace ≤ 99) (d0 : 0 ≤ d) (d1 : d ≤ 1000) : 0 ≤ pace * d ∧ pace * d ≤ 99000 := by
  have a : pace * d ≤ 99 * d := Int.mul_le_mul_of_nonneg_right h1 d0
  have b : 0 ≤ pace * d := Int.mul_nonneg (by omega) d0
  omega
section
variable {h h' : AH} {w : Nat} {r : Int → Int} {c : Nat → Int → Int}
theorem WD.wtI (W : WD h w r c) {pace fr wk : Int} (p0 : 1 ≤ pace) (p1 : pace ≤ 99) (f0 : 0 ≤ fr) (f1 : fr ≤ wk) (f2 : wk ≤ 519) {kk : Int32 → Int32 → Int32 → Option Int32} {v : Int} (hk : ∀ nx, 0 ≤ nx → nx ≤ r 4 → (∀ j, 0 ≤ j → j < nx → r (1330 + 10 * j + 8) ≤ wk) → kk (I (sm (wtg r fr) nx.toNat 0)) (I nx) (I (wk + 1)) = some (I v)) : ∀ (f : Nat) (nx : Int), 0 ≤ nx → nx ≤ r 4 → r 4 - nx < f → (∀ j, 0 ≤ j → j < nx → r (1330 + 10 * j + 8) ≤ wk) → f7_weekTooFast_17 kk h w (I pace) (I fr) (I wk) f (I (sm (wtg r fr) nx.toNat 0)) (I nx) = some (I (if pace * (wk - fr + 1) < wtw r fr wk then wk else v)) := by
  intro f
  have b := W.ri.1
  have pr := pace_rng (d := wk - fr + 1) p0 p1 (by omega) (by omega)
  induction f with
  | zero => intro nx h0 h1; omega
  | succ f ih =>
    intro nx n0 n1 n2 lo
    have sr := wtg_rng W.ri fr n0 n1
    by_cases g : nx < r 4
    · have y := (W.ri.2.2.2.2.1 nx n0 g).2.2.2.2.1
      by_cases k : wk < r (1330 + 10 * nx + 8)
      · have e := wtw_nx W.ri fr wk n0 n1 lo fun j g0 g1 => by
          have := W.ri.2.2.2.2.2.1 nx j n0 g0 g1
          omega
        simp (disch := omega) only [f7_weekTooFast_17, W.f4, W.pi.size, W.pAt, Option.bind_some, I_lit, I_neg, I_add, I_sub, I_mul, I_lt, I_le, I_eq, if_pos, if_neg, if_true, if_false, decide_eq_true_eq, e]
        by_cases k2 : pace * (wk - fr + 1) < sm (wtg r fr) nx.toNat 0
        · rw [if_neg (by omega), if_pos k2]
        · rw [if_pos (by omega), if_neg k2, hk nx n0 n1 lo]
      · have ih' := ih (nx + 1) (by omega) (by omega) (by omega) fun j g0 g1 => by
          by_cases e : j = nx
          · subst e; omega
          · exact lo j g0 (by omega)
        have pn := pq_nn r nx fun _ _ => true
        rw [show (nx + 1).toNat = nx.toNat + 1 by omega, sm_last, show (0 : Int) + (nx.toNat : Nat) = nx by omega] at ih'
        rw [← ih']
        by_cases k1 : r (1330 + 10 * nx) = 0
        · by_cases k2 : fr ≤ r (1330 + 10 * nx + 8)
          · have : wtg r fr nx = pq r nx (fun _ _ => true) := if_pos ⟨k1, k2⟩
            rw [this]
            simp (disch := omega) only [f7_weekTooFast_17, W.f4, W.pi.size, W.pAt, W.isVol, W.pagesOf, Option.bind_some, I_lit, I_neg, I_add, I_sub, I_mul, I_lt, I_le, I_eq, if_pos, if_neg, if_true, if_false, decide_eq_true_eq]
          · have : wtg r fr nx = 0 := if_neg (fun z => k2 z.2)
            rw [this, Int.add_zero]
            simp (disch := omega) only [f7_weekTooFast_17, W.f4, W.pi.size, W.pAt, W.isVol, Option.bind_some, I_lit, I_neg, I_add, I_sub, I_mul, I_lt, I_le, I_eq, if_pos, if_neg, if_true, if_false, decide_eq_true_eq]
        · have : wtg r fr nx = 0 := if_neg (fun z => k1 z.1)
          rw [this, Int.add_zero]
          simp (disch := omega) only [f7_weekTooFast_17, W.f4, W.pi.size, W.pAt, W.isVol, Option.bind_some, I_lit, I_neg, I_add, I_sub, I_mul, I_lt, I_le, I_eq, if_pos, if_neg, if_true, if_false, decide_eq_true_eq]
    · have e := wtw_nx W.ri fr wk n0 n1 lo fun j g0 g1 => by omega
      simp (disch := omega) only [f7_weekTooFast_17, W.f4, W.pi.size, Option.bind_some, I_lit, I_neg, I_add, I_sub, I_mul, I_lt, I_le, I_eq, if_pos, if_neg, if_true, if_false, decide_eq_true_eq, e]
      by_cases k2 : pace * (wk - fr + 1) < sm (wtg r fr) nx.toNat 0
      · rw [if_neg (by omega), if_pos k2]
      · rw [if_pos (by omega), if_neg k2, hk nx n0 n1 lo]
theorem WD.wtL (W : WD h w r c) {pace fr : Int} (p0 : 1 ≤ pace) (p1 : pace ≤ 99) (f0 : 0 ≤ fr) : ∀ (f : Nat) (wk nx : Int), fr ≤ wk → wk ≤ r 0 + 1 → r 0 + 1 - wk < f → 0 ≤ nx → nx ≤ r 4 → (∀ j, 0 ≤ j → j < nx → r (1330 + 10 * j + 8) ≤ wk) → f7_weekTooFast_8 h w (I pace) (I fr) f (I (sm (wtg r fr) nx.toNat 0)) (I nx) (I wk) = some (I (wt r pace fr (r 0 + 1 - wk).toNat wk)) := by
  intro f
  have b := W.ri.1
  have fu := FU_big
  induction f with
  | zero => intro wk nx h0 h1; omega
  | succ f ih =>
    intro wk nx g0 g1 g2 n0 n1 lo
    by_cases g : wk < r 0 + 1
    · have := W.wtI (wk := wk) p0 p1 f0 g0 (by omega) (kk := fun v3 v4 v5 => f7_weekTooFast_8 h w (I pace) (I fr) f v3 v4 v5) (v := wt r pace fr (r 0 + 1 - (wk + 1)).toNat (wk + 1)) (fun nx n0 n1 lo => ih (wk + 1) nx (by omega) (by omega) (by omega) n0 n1 fun j a b => by have := lo j a b; omega) FU nx n0 n1 (by omega) lo
      simp (disch := omega) only [f7_weekTooFast_8, W.f0, Option.bind_some, I_lit, I_neg, I_add, I_sub, I_mul, I_lt, I_le, I_eq, if_pos, if_neg, if_true, if_false, decide_eq_true_eq, this]
      congr 2
      unfold wt
      rw [fst_suc _ _ g]
      by_cases k : pace * (wk - fr + 1) < wtw r fr wk
      · rw [if_pos k, if_pos (decide_eq_true k), if_neg (by omega)]
      · rw [if_neg k, if_neg (show ¬ decide (pace * (wk - fr + 1) < wtw r fr wk) = true by simpa using k)]
    · simp (disch := omega) only [f7_weekTooFast_8, W.f0, Option.bind_some, I_lit, I_neg, I_add, I_sub, I_mul, I_lt, I_le, I_eq, if_pos, if_neg, if_true, if_false, decide_eq_true_eq, wt, fst_end _ _ g]
theorem WD.tooFast (W : WD h w r c) {pace fr : Int} (p0 : 1 ≤ pace) (p1 : pace ≤ 99) (f0 : 0 ≤ fr) (f1 : fr ≤ r 0) : f7_weekTooFast h w (I pace) (I fr) = some (I (wt r pace fr (r 0 + 1 - fr).toNat fr)) := by
  have b := W.ri.1
  have fu := FU_big
  have := W.wtL p0 p1 f0 FU fr 0 (by omega) (by omega) (by omega) (by omega) (by omega) (fun j _ _ => by omega)
  rw [← this]
  simp (disch := omega) only [f7_weekTooFast, W.o, Option.bind_some, I_lit, I_neg, I_add, I_sub, I_mul, I_lt, I_le, I_eq, if_pos, if_neg, if_true, if_false, decide_eq_true_eq]
  rfl
end
