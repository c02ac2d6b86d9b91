/-! PAGES, of the class's world -/
theorem Tl_rng {r : Int → Int} (R : RI r) (d : Int) : -1 ≤ Tl r d ∧ Tl r d ≤ 99 := by
  rcases fst_cases (fun k => decide (r (30 + 2 * k) = d)) (fun k => r (30 + 2 * k + 1)) (r 2).toNat 0 with ⟨h, -⟩ | ⟨b, h1, h2, -, -, h⟩
  · unfold Tl; omega
  · have b1 := R.1
    have := R.2.2.1 b (by omega) (by omega)
    unfold Tl; omega
theorem Fl_rng {r : Int → Int} (R : RI r) (s d : Int) : -1 ≤ Fl r s d ∧ Fl r s d ≤ 99 := by
  rcases fst_cases (fun k => decide (r (430 + 3 * k) = s ∧ r (430 + 3 * k + 1) = d)) (fun k => r (430 + 3 * k + 2)) (r 3).toNat 0 with ⟨h, -⟩ | ⟨b, h1, h2, -, -, h⟩
  · unfold Fl; omega
  · have b1 := R.1
    have := R.2.2.2.1 b (by omega) (by omega)
    unfold Fl; omega
def wr (r : Int → Int) (d l : Int) : Bool := decide (Tl r d ≠ -1 ∧ Tl r d ≠ l)
def sh (r : Int → Int) (d l s : Int) : Bool := wr r d l && decide (Fl r s d = l)
def nw (r : Int → Int) (d : Int) : Bool := decide (Tl r d = -1) && decide (cn (fun s => decide (Fl r s d ≠ -1)) 6 0 = 0)
def sa (r : Int → Int) (d l : Int) : Bool := decide (bs (sh r d l) 6 ≠ 0)
theorem ff_mono {K : Int → Int} {n x y : Int} (hn : 0 ≤ n) (s : so K n) (h : x ≤ y) : ff K n x ≤ ff K n y := by
  have a := ff_spec x hn s
  have b := ff_spec y hn s
  by_cases c : ff K n y < ff K n x
  · have h1 := a.2.2.1 _ b.1 c
    have h2 := b.2.2.2 _ (Int.le_refl _) (by omega)
    omega
  · omega
theorem seg {K Q : Int → Int} {n : Int} (hn : 0 ≤ n) (s : so K n) (hk : ∀ i, 0 ≤ i → i < n → 0 ≤ K i) (p : Int) (q : Int → Int → Bool) : cn (fun i => q (K i % 10000) (Q i)) (ff K n ((p + 1) * 10000) - ff K n (p * 10000)).toNat (ff K n (p * 10000)) = cn (fun i => decide (K i / 10000 = p) && q (K i % 10000) (Q i)) n.toNat 0 := by
  have a := ff_spec (p * 10000) hn s
  have b := ff_spec ((p + 1) * 10000) hn s
  have m := ff_mono hn s (x := p * 10000) (y := (p + 1) * 10000) (by omega)
  generalize ff K n (p * 10000) = x at a m
  generalize ff K n ((p + 1) * 10000) = y at b m
  rw [show n.toNat = x.toNat + ((y - x).toNat + (n - y).toNat) by omega, cn_add, cn_add, cn_none x.toNat, cn_none (n - y).toNat, show (0 : Int) + x.toNat = x by omega]
  · rw [Int.zero_add, Int.add_zero]
    refine cn_cong _ _ fun j h0 h1 => ?_
    have h2 := a.2.2.2 j (by omega) (by omega)
    have h3 := b.2.2.1 j (by omega) (by omega)
    rw [decide_eq_true (by omega), Bool.true_and]
  · intro j h0 h1
    have h2 := b.2.2.2 j (by omega) (by omega)
    rw [decide_eq_false (by omega), Bool.false_and]
  · intro j h0 h1
    have h2 := a.2.2.1 j (by omega) (by omega)
    rw [decide_eq_false (by omega), Bool.false_and]
theorem sub_ed (a b : Int) : a - a / b * b = a % b := by rw [Int.emod_def, Int.mul_comm]
section
variable {h h' : AH} {w : Nat} {r : Int → Int} {c : Nat → Int → Int}
theorem WD.pgr (W : WD h w r c) {i : Int} (h0 : 0 ≤ i) (h1 : i < r 5) : 0 ≤ c 6 i ∧ c 6 i < 1000000 ∧ 0 ≤ c 7 i ∧ c 7 i ≤ 99 := W.pg.2.2.2.2.1 i h0 h1
def fp (r : Int → Int) (c : Nat → Int → Int) (p : Int) : Int := ff (c 6) (r 5) (p * 10000)
theorem WD.fpr (W : WD h w r c) (p : Int) : 0 ≤ fp r c p ∧ fp r c p ≤ fp r c (p + 1) ∧ fp r c (p + 1) ≤ r 5 := ⟨(W.pg.ffs _).1, ff_mono W.ri.1.2.2.2.2.2.2.2.2.2.2.1 W.pg.2.2.2.1 (by omega), (W.pg.ffs _).2.1⟩
theorem WD.count (W : WD h w r c) (p : Int) (q : Int → Int → Bool) : cn (fun i => q (c 6 i % 10000) (c 7 i)) (fp r c (p + 1) - fp r c p).toNat (fp r c p) = pc r fun a d l => decide (a = p) && q d l := by
  have := seg (Q := c 7) W.ri.1.2.2.2.2.2.2.2.2.2.2.1 W.pg.2.2.2.1 (fun i h0 h1 => (W.pgr h0 h1).1) p q
  unfold fp
  rw [this]
  exact W.cr.2.2.2.2.2.1 fun a d l => decide (a = p) && q d l
theorem WD.pEnd (W : WD h w r c) {p : Int} (h0 : 0 ≤ p) (h1 : p < 90) : f7_pagesEnd h w (I p) = some (I (fp r c (p + 1))) := by
  simp (disch := omega) only [f7_pagesEnd, W.o, W.f5, W.pg.first, Option.bind_some, I_lit, I_neg, I_add, I_sub, I_mul, I_lt, I_le, I_eq, if_pos, if_neg, if_true, if_false, decide_eq_true_eq, fp]
theorem WD.pFirst (W : WD h w r c) {p : Int} (h0 : 0 ≤ p) (h1 : p < 90) : f7_firstPage h w (I p) = some (I (fp r c p)) := by
  simp (disch := omega) only [f7_firstPage, W.o, W.f5, W.pg.first, Option.bind_some, I_lit, I_neg, I_add, I_sub, I_mul, I_lt, I_le, I_eq, if_pos, if_neg, if_true, if_false, decide_eq_true_eq, fp]
theorem WD.day (W : WD h w r c) {i : Int} (h0 : 0 ≤ i) (h1 : i < r 5) : f7_dayOfPage h w (I i) = some (I (c 6 i % 10000)) := by
  have := W.pgr h0 h1
  simp (disch := omega) only [f7_dayOfPage, W.o, W.f5, W.pg.keyAt, Option.bind_some, I_lit, I_neg, I_add, I_sub, I_mul, I_lt, I_le, I_eq, if_pos, if_neg, if_true, if_false, decide_eq_true_eq, I_div, sub_ed]
theorem WD.truth (W : WD h w r c) {d : Int} (h0 : 0 ≤ d) (h1 : d ≤ 1000000) : f2_placeOf h (w + 3) (I d) = some (I (Tl r d)) := by
  rw [W.tr.placeOf h0 (by omega), W.cr.2.2.1]
theorem WD.fact (W : WD h w r c) {s d : Int} (s0 : 0 ≤ s) (s1 : s ≤ 5) (h0 : 0 ≤ d) (h1 : d ≤ 9999) : f2_placeOf h (w + 6) (I (s * 10000 + d)) = some (I (Fl r s d)) := by
  rw [W.fa.placeOf (by omega) (by omega), W.cr.2.2.2.1 s d s0 s1 h0 h1]
theorem WD.wrong (W : WD h w r c) {i : Int} (h0 : 0 ≤ i) (h1 : i < r 5) : f7_isWrong h w (I i) = some (wr r (c 6 i % 10000) (c 7 i)) := by
  have := W.pgr h0 h1
  have t := Tl_rng W.ri (c 6 i % 10000)
  simp (disch := omega) only [f7_isWrong, W.o, W.f2, W.f5, W.day, W.truth, W.pg.placeAt, Option.bind_some, I_lit, I_neg, I_add, I_sub, I_mul, I_lt, I_le, I_eq, if_pos, if_neg, if_true, if_false, decide_eq_true_eq, wr]
  grind
theorem WD.srcL (W : WD h w r c) {d l : Int} (d0 : 0 ≤ d) (d1 : d ≤ 9999) (l0 : 0 ≤ l) (l1 : l ≤ 99) : ∀ (f : Nat) (i : Int), 0 ≤ i → i ≤ 6 → 6 - i < f → f7_sourcesOfPage_45 h w (I d) (I l) f (I (bs (fun s => decide (Fl r s d = l)) i.toNat)) (I i) = some (I (bs (fun s => decide (Fl r s d = l)) 6)) := by
  intro f
  induction f with
  | zero => intros; omega
  | succ f ih =>
    intro i h0 h1 hf
    by_cases e : i < 6
    · have t := Fl_rng W.ri i d
      simp (disch := omega) only [f7_sourcesOfPage_45, W.f3, W.fact, Option.bind_some, I_lit, I_neg, I_add, I_sub, I_mul, I_lt, I_le, I_eq, if_pos, if_neg, if_true, if_false, decide_eq_true_eq]
      by_cases g : Fl r i d = l
      · rw [if_pos g, bs_or h0 (by omega) (by simpa using g)]
        exact ih _ (by omega) (by omega) (by omega)
      · rw [if_neg g, ← bs_skip h0 (by simpa using g)]
        exact ih _ (by omega) (by omega) (by omega)
    · have : i = 6 := by omega
      subst this
      simp (disch := omega) only [f7_sourcesOfPage_45, Option.bind_some, I_lit, I_neg, I_add, I_sub, I_mul, I_lt, I_le, I_eq, if_pos, if_neg, if_true, if_false, decide_eq_true_eq]
      rfl
theorem WD.sources (W : WD h w r c) {i : Int} (h0 : 0 ≤ i) (h1 : i < r 5) : f7_sourcesOfPage h w (I i) = some (I (bs (sh r (c 6 i % 10000) (c 7 i)) 6)) := by
  have p := W.pgr h0 h1
  have t := Tl_rng W.ri (c 6 i % 10000)
  have fu := FU_big
  simp (disch := omega) only [f7_sourcesOfPage, W.o, W.f2, W.f5, W.day, W.truth, W.pg.placeAt, Option.bind_some, I_lit, I_neg, I_add, I_sub, I_mul, I_lt, I_le, I_eq, if_pos, if_neg, if_true, if_false, decide_eq_true_eq]
  by_cases g : wr r (c 6 i % 10000) (c 7 i) = true
  · have g' := g
    simp only [wr, decide_eq_true_eq] at g'
    rw [if_neg g'.1, if_neg g'.2, bs_cong (q := sh r (c 6 i % 10000) (c 7 i)) (q' := fun s => decide (Fl r s (c 6 i % 10000) = c 7 i)) 6 (fun j _ _ => by simp [sh, g])]
    exact W.srcL (by omega) (by omega) (by omega) (by omega) FU 0 (by omega) (by omega) (by omega)
  · have g' := g
    simp only [wr, decide_eq_true_eq] at g'
    rw [bs_no 6 (fun j _ _ => by simp [sh, g])]
    by_cases k : Tl r (c 6 i % 10000) = -1
    · rw [if_pos k]
    · rw [if_neg k, if_pos (by omega)]
end
